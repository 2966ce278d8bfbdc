/-! the calls genocchi, tangent, value, quadratic -/
theorem frE_0 {N D : Int} (hD : 0 < D) : (frE N D).2.1 = 0 ↔ N % D = 0 := by
  have eA : prA (N % D) D * ((Int.gcd (N % D) D : Nat) : Int) = N % D := Int.ediv_mul_cancel (Int.gcd_dvd_left ..)
  constructor
  · intro h
    have h2 : prA (N % D) D = 0 := h
    rw [h2, Int.zero_mul] at eA
    exact eA.symm
  · intro h
    show prA (N % D) D = 0
    rw [h]
    unfold prA
    exact Int.zero_ediv _
theorem tdv {a b : Int} (h : a % b = 0) (hb : b ≠ 0) : Int.tdiv a b = a / b := by
  obtain ⟨q, rfl⟩ := Int.dvd_of_emod_eq_zero h
  rw [Int.mul_tdiv_cancel_left _ hb, Int.mul_ediv_cancel_left _ hb]
theorem mul_ab {a b A B : Int} (a1 : -A ≤ a) (a2 : a ≤ A) (b1 : -B ≤ b) (b2 : b ≤ B) : -(A * B) ≤ a * b ∧ a * b ≤ A * B := by
  have A0 : 0 ≤ A := by omega
  have B0 : 0 ≤ B := by omega
  by_cases h : 0 ≤ b
  · have p1 : a * b ≤ A * b := Int.mul_le_mul_of_nonneg_right a2 h
    have p2 : A * b ≤ A * B := Int.mul_le_mul_of_nonneg_left b2 A0
    have p3 : -A * b ≤ a * b := Int.mul_le_mul_of_nonneg_right a1 h
    rw [Int.neg_mul] at p3
    exact ⟨by omega, by omega⟩
  · have p1 : a * -b ≤ A * -b := Int.mul_le_mul_of_nonneg_right a2 (by omega)
    have p2 : A * -b ≤ A * B := Int.mul_le_mul_of_nonneg_left (by omega) A0
    have p3 : -A * -b ≤ a * -b := Int.mul_le_mul_of_nonneg_right a1 (by omega)
    simp only [Int.mul_neg, Int.neg_mul, Int.neg_neg] at p1 p2 p3
    exact ⟨by omega, by omega⟩
theorem shl1 {n : Int} (h0 : 0 ≤ n) (h1 : n < 62) : jL 1 <<< ((jI n).toInt64 &&& 63) = jL ((2 ^ n.toNat : Nat) : Int) := by
  have a := jL_1shl n.toNat (by omega)
  rw [Int.toNat_of_nonneg h0] at a
  exact a
section V5
variable {c : Nat} {E : eT} {t : Int} {ws : Nat → Int} {me : memT} {w : xW}
/-! genocchi -/
def geF (n : Int) : Int := 2 * (1 - ((2 ^ n.toNat : Nat) : Int))
theorem geF_b : ∀ n : Nat, n < 21 → -2097152 ≤ geF n ∧ geF n ≤ 0 := by decide +kernel
def geS (E : eT) (t n : Int) : Int := if (0 ≤ n ∧ n ≤ 20) ∧ n ≤ t then (if geF n * enV (E n.toNat) % (E n.toNat).2.2 = 0 then geF n * enV (E n.toNat) / (E n.toNat).2.2 else lNO) else lNO
theorem ge_alg {f : Int} {e : Int × Int × Int} (hb : 0 < e.2.2) : f * enV e % e.2.2 = f * e.2.1 % e.2.2 ∧ f * enV e / e.2.2 = f * e.1 + f * e.2.1 / e.2.2 := by
  have s : f * enV e = e.2.2 * (f * e.1) + f * e.2.1 := by
    unfold enV
    rw [Int.mul_add, ← Int.mul_assoc, Int.mul_comm (f * e.1)]
  rw [s]
  exact ⟨Int.mul_add_emod_self_left _ _ _, Int.mul_add_ediv_left _ _ (by omega)⟩
theorem c_genocchi (ok : okS c E t ws me) {n : Int} (hn : in32 n) : cAns E t ws me E t ws me 175 [.int (jI n)] (.long (jL (geS E t n))) := by
  intro w h
  have ht1 := ok.2.1
  have ht := ok.2.2.1
  by_cases a : (0 ≤ n ∧ n ≤ 20) ∧ n ≤ t
  · rw [show geS E t n = _ from if_pos a]
    have eb := ok_e ok (n := n) (by omega) a.2
    have ea := ok.2.2.2.1 n.toNat (by omega)
    have gb := geF_b n.toNat (by omega)
    rw [Int.toNat_of_nonneg a.1.1] at gb
    have a1 := ea.1
    have a2 := ea.2.1
    have mb := mul_ab (a := geF n) (A := 2097152) (b := (E n.toNat).2.1) (B := 1919190) (by omega) (by omega) (by omega) (by omega)
    have f1 := fw h.1 (E n.toNat).1 (E n.toNat).2.1 (E n.toNat).2.2
    have ml := mf36 f1.1 (f := geF n) f1.2.1 eb.2.2.2.1 ⟨by omega, by omega⟩ eb.2.2.1
    have f2 := fw f1.1 (frE (geF n * enV (E n.toNat)) (E n.toNat).2.2).1 (frE (geF n * enV (E n.toNat)) (E n.toNat).2.2).2.1 (frE (geF n * enV (E n.toNat)) (E n.toNat).2.2).2.2
    have fo := frE_ok (N := geF n * enV (E n.toNat)) eb.2.2.2.1
    have fp := frE_pos (N := geF n * enV (E n.toNat)) eb.2.2.2.1
    have f0 := frE_0 (N := geF n * enV (E n.toNat)) eb.2.2.2.1
    obtain ⟨g1, g2, g3⟩ := fw0 f2.2.1
    have sm : xsame [36] w _ := f1.2.2.trans f2.2.2
    refine ⟨_, Z_175 h.1 ⟨hn, fun q => by omega, fun _ => ⟨fun q => by omega, fun _ => ⟨_, h.top, s32, fun _ => ⟨_, C_fetchF h ok (by omega) a.2, f1.1, _, shl1 a.1.1 (by omega), _, ml, f2.1, _, g2, ⟨by omega, by omega⟩, fun q => ?_, fun q => ⟨_, g1, ?_⟩⟩, fun q => by omega⟩⟩⟩, h.same sm (by decide) f2.1, sm.mono (by decide)⟩
    · rw [if_neg (fun z => q (f0.mpr z))]; rfl
    · rw [if_pos (f0.mp q)]; rfl
  · rw [show geS E t n = lNO from if_neg a]
    exact ⟨w, Z_175 h.1 ⟨hn, fun _ => rfl, fun q1 => ⟨fun _ => rfl, fun q2 => ⟨_, h.top, s32, fun q3 => absurd ⟨⟨q1, q2⟩, q3⟩ a, fun _ => rfl⟩⟩⟩, h, xsame.rf⟩
theorem m_genocchi (ok : okS c E t ws me) {n : Int} (hn : in32 n) : mAns E t ws me E t ws me 297 [.int (jI n)] (.long (jL (geS E t n))) := by
  intro w h0
  have h := h0.p0 (v := jI 0)
  have s0 : xsame mAll w (pF w 39 0 (.int (jI 0))) := sm_pF (by decide)
  have ht1 := ok.2.1
  have ht := ok.2.2.1
  refine ⟨_, Z_297 h0.1 (fun w3 e _ => ?_), h, s0⟩
  subst e
  by_cases a : (0 ≤ n ∧ n ≤ 20) ∧ n ≤ t
  · rw [show geS E t n = _ from if_pos a]
    have eb := ok_e ok (n := n) (by omega) a.2
    have ea := ok.2.2.2.1 n.toNat (by omega)
    have gb := geF_b n.toNat (by omega)
    rw [Int.toNat_of_nonneg a.1.1] at gb
    have a1 := ea.1
    have a2 := ea.2.1
    have mb := mul_ab (a := geF n) (A := 2097152) (b := (E n.toNat).2.1) (B := 1919190) (by omega) (by omega) (by omega) (by omega)
    obtain ⟨r0, r1, r2⟩ := M_nw h ht (n := n) (by omega) a.2 rfl
    obtain ⟨q1, q2⟩ := ge_alg (f := geF n) (e := E n.toNat) eb.2.2.2.1
    have tb := tm_b (x := geF n * (E n.toNat).2.1) (m := (E n.toNat).2.2) eb.2.2.2.1
    refine ⟨_, _, _, C_isIn hn s32 s32 _, h.1, fun q => absurd a.1 q, fun _ => ⟨_, h.top, hn, s32, fun _ => ⟨_, shl1 a.1.1 (by omega), by omega, _, r1, by omega, _, r2, show in64 (geF n * (E n.toNat).2.1) from ⟨by omega, by omega⟩, eb.2.2.1, by omega, Int.tmod (geF n * (E n.toNat).2.1) (E n.toNat).2.2, rfl, ⟨by omega, by omega⟩, fun q => ?_, fun q => ⟨by omega, _, r0, by omega, _, r2, eb.2.2.1, by omega, geF n * (E n.toNat).2.1 / (E n.toNat).2.2, tdv (tm0.mp q) (by omega), ?_⟩⟩, fun q => by omega⟩⟩
    · rw [if_neg (fun z => q (tm0.mpr (by rw [← q1]; exact z)))]; rfl
    · rw [if_pos (by rw [q1]; exact tm0.mp q), q2]; rfl
  · rw [show geS E t n = lNO from if_neg a]
    exact ⟨_, _, _, C_isIn hn s32 s32 _, h.1, fun _ => rfl, fun q => ⟨_, h.top, hn, s32, fun q2 => absurd ⟨q, q2⟩ a, fun _ => rfl⟩⟩
/-! tangent -/
theorem sg_abs {e : Int × Int × Int} (h0 : 0 ≤ e.2.1) (h1 : e.2.1 < e.2.2) : sgE e * enV e = absI (enV e) := by
  unfold sgE enV absI
  by_cases a : e.1 < 0
  · have m : e.1 * e.2.2 ≤ -1 * e.2.2 := Int.mul_le_mul_of_nonneg_right (by omega) (by omega)
    rw [if_pos a, if_neg (by omega)]
    omega
  · rw [if_neg a]
    have m : 0 ≤ e.1 * e.2.2 := Int.mul_nonneg (by omega) (by omega)
    by_cases b : e.1 = 0 ∧ e.2.1 = 0
    · rw [if_pos b, b.1, b.2]; simp
    · rw [if_neg b, if_pos (by omega), Int.one_mul]
def tgP (n : Int) : Int := ((2 ^ n.toNat : Nat) : Int) * (((2 ^ n.toNat : Nat) : Int) - 1)
theorem tgP_b : ∀ n : Nat, n < 23 → 0 ≤ tgP n ∧ tgP n ≤ 17592186044416 := by decide +kernel
theorem sm22 : ∀ n : Nat, n < 23 → -7000 ≤ rW n ∧ rW n ≤ 7000 ∧ rB n ≤ 2730 := by decide +kernel
def tgS (E : eT) (t n : Int) : Int := if (2 ≤ n ∧ n ≤ 22 ∧ n % 2 = 0) ∧ n ≤ t then (if tgP n * absI (enV (E n.toNat)) % ((E n.toNat).2.2 * n) = 0 then tgP n * absI (enV (E n.toNat)) / ((E n.toNat).2.2 * n) else lNO) else lNO
theorem e22 (ok : okS c E t ws me) {n : Int} (n0 : 0 ≤ n) (n22 : n ≤ 22) (hn : n ≤ t) : -13000 ≤ (E n.toNat).1 ∧ (E n.toNat).1 ≤ 13000 ∧ 0 ≤ (E n.toNat).2.1 ∧ (E n.toNat).2.1 < (E n.toNat).2.2 ∧ (E n.toNat).2.2 ≤ 2730 := by
  have ht := ok.2.2.1
  obtain ⟨a1, a2, a3, a4, a5, a6⟩ := ok.2.2.2.1 n.toNat (by omega)
  have s := sm22 n.toNat (by omega)
  have r := rB_pos n.toNat (by omega)
  have hc := ok.1
  have := Int.le_of_dvd (by omega) a3
  exact ⟨by omega, by omega, a1, a2, by omega⟩
theorem c_tangent (ok : okS c E t ws me) {n : Int} (hn : in32 n) : cAns E t ws me E t ws me 181 [.int (jI n)] (.long (jL (tgS E t n))) := by
  intro w h
  have ht1 := ok.2.1
  have ht := ok.2.2.1
  by_cases a : (2 ≤ n ∧ n ≤ 22 ∧ n % 2 = 0) ∧ n ≤ t
  · rw [show tgS E t n = _ from if_pos a]
    have eb := ok_e ok (n := n) (by omega) a.2
    obtain ⟨x1, x2, y0, y1, z1⟩ := e22 ok (n := n) (by omega) a.1.2.1 a.2
    have pb := tgP_b n.toNat (by omega)
    rw [Int.toNat_of_nonneg (by omega)] at pb
    have sb := sgE_b (E n.toNat)
    have eF : sgE (E n.toNat) * ((2 ^ n.toNat : Nat) : Int) * (((2 ^ n.toNat : Nat) : Int) - 1) = sgE (E n.toNat) * tgP n := by unfold tgP; rw [Int.mul_assoc]
    have Fb := mul_ab (a := sgE (E n.toNat)) (A := 1) (b := tgP n) (B := 17592186044416) sb.1 sb.2 (by omega) (by omega)
    have eT : sgE (E n.toNat) * tgP n * enV (E n.toNat) = tgP n * absI (enV (E n.toNat)) := by
      rw [Int.mul_comm (sgE (E n.toNat)), Int.mul_assoc, sg_abs y0 y1]
    revert Fb eF eT
    generalize sgE (E n.toNat) * tgP n = F
    intro eF Fb eT
    have m1 := mul_ab (a := F) (A := 17592186044416) (b := (E n.toNat).2.1) (B := 2730) (by omega) (by omega) (by omega) (by omega)
    have m2 := mul_ab (a := F) (A := 17592186044416) (b := (E n.toNat).1) (B := 13000) (by omega) (by omega) (by omega) (by omega)
    have f1 := fw h.1 (E n.toNat).1 (E n.toNat).2.1 (E n.toNat).2.2
    have h1 := h.f36 (E n.toNat).1 (E n.toNat).2.1 (E n.toNat).2.2
    have ml := mf36 f1.1 (f := F) f1.2.1 eb.2.2.2.1 ⟨by omega, by omega⟩ eb.2.2.1
    have f2 := fw f1.1 (frE (F * enV (E n.toNat)) (E n.toNat).2.2).1 (frE (F * enV (E n.toNat)) (E n.toNat).2.2).2.1 (frE (F * enV (E n.toNat)) (E n.toNat).2.2).2.2
    have fo := frE_ok (N := F * enV (E n.toNat)) eb.2.2.2.1
    have fp := frE_pos (N := F * enV (E n.toNat)) eb.2.2.2.1
    have wb : in64 (frE (F * enV (E n.toNat)) (E n.toNat).2.2).1 := by
      show in64 (F * enV (E n.toNat) / (E n.toNat).2.2)
      rw [(ge_alg (f := F) (e := E n.toNat) eb.2.2.2.1).2]
      have q := dv_b (T := F * (E n.toNat).2.1) (U := (E n.toNat).2.2) (M := 48026667901255680) eb.2.2.2.1 (by omega) (by omega)
      exact ⟨by omega, by omega⟩
    have cmp := fr_div (N := F * enV (E n.toNat)) (D := (E n.toNat).2.2) (d := n) eb.2.2.2.1 (by omega)
    revert ml f2 fo fp wb cmp
    generalize frE (F * enV (E n.toNat)) (E n.toNat).2.2 = g
    intro ml f2 fo fp wb cmp
    have k0 := Int.emod_nonneg g.1 (show n ≠ 0 by omega)
    have k1 := Int.emod_lt_of_pos g.1 (show 0 < n by omega)
    have q1 := mul_b (a := g.1 % n) (A := 22) (b := g.2.2) (B := 2730) k0 (by omega) (by omega) (by omega)
    have q2 := mul_b (a := g.2.2) (A := 2730) (b := n) (B := 22) (by omega) (by omega) (by omega) (by omega)
    have dv := df36 f2.1 (d := n) f2.2.1 fp.1 (by omega) s64 wb ⟨by omega, by omega⟩ ⟨by omega, by omega⟩
    rw [cmp, eT] at dv
    have Dp : 0 < (E n.toNat).2.2 * n := Int.mul_pos eb.2.2.2.1 (by omega)
    have D1 := mul_b (a := (E n.toNat).2.2) (A := 2730) (b := n) (B := 22) (by omega) (by omega) (by omega) (by omega)
    have fo3 := frE_ok (N := tgP n * absI (enV (E n.toNat))) Dp
    have fp3 := frE_pos (N := tgP n * absI (enV (E n.toNat))) Dp
    have f0 := frE_0 (N := tgP n * absI (enV (E n.toNat))) Dp
    have f3 := fw f2.1 (frE (tgP n * absI (enV (E n.toNat))) ((E n.toNat).2.2 * n)).1 (frE (tgP n * absI (enV (E n.toNat))) ((E n.toNat).2.2 * n)).2.1 (frE (tgP n * absI (enV (E n.toNat))) ((E n.toNat).2.2 * n)).2.2
    obtain ⟨g1, g2, g3⟩ := fw0 f3.2.1
    have sm : xsame [36] w _ := f1.2.2.trans (f2.2.2.trans f3.2.2)
    rw [← eF] at ml
    refine ⟨_, Z_181 h.1 ⟨hn, fun q => by omega, fun _ => ⟨_, _, _, C_isEven hn w, h.1, fun q => absurd ⟨a.1.1, a.1.2.2⟩ q, fun _ => ⟨_, h.top, s32, fun _ => ⟨_, shl1 (by omega) (by omega), _, C_fetchF h ok (by omega) a.2, f1.1, _, _, C_signN h1 ok (by omega) a.2, f1.1, s32, _, ml, f2.1, _, dv, f3.1, _, g2, ⟨by omega, by omega⟩, fun q => ?_, fun q => ⟨_, g1, ?_⟩⟩, fun q => by omega⟩⟩⟩, h.same sm (by decide) f3.1, sm.mono (by decide)⟩
    · rw [if_neg (fun z => q (f0.mpr z))]; rfl
    · rw [if_pos (f0.mp q)]; rfl
  · rw [show tgS E t n = lNO from if_neg a]
    exact ⟨w, Z_181 h.1 ⟨hn, fun _ => rfl, fun q1 => ⟨_, _, _, C_isEven hn w, h.1, fun _ => rfl, fun q2 => ⟨_, h.top, s32, fun q3 => absurd ⟨⟨q2.1, q1, q2.2⟩, q3⟩ a, fun _ => rfl⟩⟩⟩, h, xsame.rf⟩
theorem cop_dvd {q p a : Int} (h : Int.gcd p q = 1) (d : q ∣ p * a) : q ∣ a := by
  have d2 : q.natAbs ∣ p.natAbs * a.natAbs := by rw [← Int.natAbs_mul]; exact Int.natAbs_dvd_natAbs.mpr d
  have h2 : Nat.Coprime q.natAbs p.natAbs := by
    rw [Nat.coprime_comm]
    exact h
  exact Int.natAbs_dvd_natAbs.mp (Nat.Coprime.dvd_of_dvd_mul_left h2 d2)
theorem tg_alg {T D a : Int} (hD : 0 < D) : (a % (D / (Int.gcd T D : Nat)) = 0 ↔ T * a % D = 0) ∧ (a % (D / (Int.gcd T D : Nat)) = 0 → T / (Int.gcd T D : Nat) * (a / (D / (Int.gcd T D : Nat))) = T * a / D) ∧ 0 < D / (Int.gcd T D : Nat) ∧ 0 < ((Int.gcd T D : Nat) : Int) := by
  have g0 := pr_g (a := T) hD
  have eT : T / (Int.gcd T D : Nat) * (Int.gcd T D : Nat) = T := Int.ediv_mul_cancel (Int.gcd_dvd_left ..)
  have eD : D / (Int.gcd T D : Nat) * (Int.gcd T D : Nat) = D := Int.ediv_mul_cancel (Int.gcd_dvd_right ..)
  have cp : Int.gcd (T / (Int.gcd T D : Nat)) (D / (Int.gcd T D : Nat)) = 1 := Int.gcd_ediv_gcd_ediv_gcd (by omega)
  revert eT eD cp g0
  generalize T / (Int.gcd T D : Nat) = p
  generalize D / (Int.gcd T D : Nat) = q
  generalize ((Int.gcd T D : Nat) : Int) = g
  intro g0 eT eD cp
  have q0 : 0 < q := by
    refine Int.pos_of_mul_pos_left ?_ g0
    rw [eD]; exact hD
  have key : ∀ r : Int, a = q * r → T * a = D * (p * r) := by
    intro r hr
    rw [hr, ← eT, ← eD]
    ac_rfl
  refine ⟨⟨fun h => ?_, fun h => ?_⟩, fun h => ?_, q0, g0⟩
  · obtain ⟨r, hr⟩ := Int.dvd_of_emod_eq_zero h
    exact Int.emod_eq_zero_of_dvd ⟨p * r, key r hr⟩
  · obtain ⟨r, hr⟩ := Int.dvd_of_emod_eq_zero h
    have s : g * (p * a) = g * (q * r) := by
      rw [← Int.mul_assoc, Int.mul_comm g p, eT, hr, ← eD, ← Int.mul_assoc, Int.mul_comm g q]
    have s2 : p * a = q * r := Int.eq_of_mul_eq_mul_left (by omega) s
    exact Int.emod_eq_zero_of_dvd (cop_dvd cp ⟨r, s2⟩)
  · obtain ⟨r, hr⟩ := Int.dvd_of_emod_eq_zero h
    rw [key r hr, Int.mul_ediv_cancel_left _ (by omega), hr, Int.mul_ediv_cancel_left _ (by omega)]
theorem m_tangent (ok : okS c E t ws me) {n : Int} (hn : in32 n) : mAns E t ws me E t ws me 303 [.int (jI n)] (.long (jL (tgS E t n))) := by
  intro w h0
  have h := h0.p0 (v := jI 0)
  have s0 : xsame mAll w (pF w 39 0 (.int (jI 0))) := sm_pF (by decide)
  have ht1 := ok.2.1
  have ht := ok.2.2.1
  refine ⟨_, Z_303 h0.1 (fun w3 e _ => ?_), h, s0⟩
  subst e
  by_cases a : (2 ≤ n ∧ n ≤ 22 ∧ n % 2 = 0) ∧ n ≤ t
  · rw [show tgS E t n = _ from if_pos a]
    have eb := ok_e ok (n := n) (by omega) a.2
    obtain ⟨x1, x2, y0, y1, z1⟩ := e22 ok (n := n) (by omega) a.1.2.1 a.2
    have pb := tgP_b n.toNat (by omega)
    rw [Int.toNat_of_nonneg (by omega)] at pb
    have Dp : 0 < (E n.toNat).2.2 * n := Int.mul_pos eb.2.2.2.1 (by omega)
    have D1 := mul_b (a := (E n.toNat).2.2) (A := 2730) (b := n) (B := 22) (by omega) (by omega) (by omega) (by omega)
    obtain ⟨r0, r1, r2⟩ := M_nw h ht (n := n) (by omega) a.2 rfl
    have cm := C_common h.1 (a := tgP n) (b := (E n.toNat).2.2 * n) (by omega) (by omega) (by omega) (by omega)
    have m2 := mul_ab (a := (E n.toNat).1) (A := 13000) (b := (E n.toNat).2.2) (B := 2730) (by omega) (by omega) (by omega) (by omega)
    have vb := absI_in (a := enV (E n.toNat)) (by unfold enV; omega) (by unfold enV; omega)
    have sz := C_msizeZ (a := enV (E n.toNat)) (by unfold enV; exact ⟨by omega, by omega⟩) (pF w 39 0 (.int (jI 0)))
    obtain ⟨k1, k2, k3, k4⟩ := tg_alg (T := tgP n) (D := (E n.toNat).2.2 * n) (a := absI (enV (E n.toNat))) Dp
    have gl : ((Int.gcd (tgP n) ((E n.toNat).2.2 * n) : Nat) : Int) ≤ (E n.toNat).2.2 * n := Int.le_of_dvd Dp (Int.gcd_dvd_right ..)
    have ql : (E n.toNat).2.2 * n / (Int.gcd (tgP n) ((E n.toNat).2.2 * n) : Nat) ≤ (E n.toNat).2.2 * n := Int.ediv_le_self _ (by omega)
    have am0 := Int.emod_nonneg (absI (enV (E n.toNat))) (Int.ne_of_gt k3)
    have am1 := Int.emod_lt_of_pos (absI (enV (E n.toNat))) k3
    have dT : tgP n % ((Int.gcd (tgP n) ((E n.toNat).2.2 * n) : Nat) : Int) = 0 := Int.emod_eq_zero_of_dvd (Int.gcd_dvd_left ..)
    have dD : (E n.toNat).2.2 * n % ((Int.gcd (tgP n) ((E n.toNat).2.2 * n) : Nat) : Int) = 0 := Int.emod_eq_zero_of_dvd (Int.gcd_dvd_right ..)
    refine ⟨_, _, _, C_isIn hn s32 s32 _, h.1, fun q => absurd ⟨a.1.1, a.1.2.1⟩ q, fun _ => ⟨hn, _, tmN (by omega), s32, fun q => by omega, fun _ => ⟨_, h.top, s32, fun _ => ⟨_, shl1 (by omega) (by omega), _, shl1 (by omega) (by omega), by omega, _, r2, _, _, cm, h.1, by omega, _, r0, by omega, _, r2, by omega, _, r1, _, _, sz, h.1, ⟨by omega, by omega⟩, ⟨by omega, by omega⟩, Int.ne_of_gt k4, _, tdv dD (Int.ne_of_gt k4), vb.1, ⟨by omega, by omega⟩, Int.ne_of_gt k3, _, tmN vb.2, ⟨by omega, by omega⟩, fun q => ?_, fun q => ⟨show in64 (tgP n) from ⟨by omega, by omega⟩, Int.ne_of_gt k4, _, tdv dT (Int.ne_of_gt k4), Int.ne_of_gt k4, _, tdv dD (Int.ne_of_gt k4), ⟨by omega, by omega⟩, Int.ne_of_gt k3, _, tdN vb.2, ?_⟩⟩, fun q => by omega⟩⟩⟩
    · rw [if_neg (fun z => q (k1.mpr z))]; rfl
    · rw [if_pos (k1.mp q), ← k2 q] <;> rfl
  · rw [show tgS E t n = lNO from if_neg a]
    exact ⟨_, _, _, C_isIn hn s32 s32 _, h.1, fun _ => rfl, fun q => ⟨hn, _, tmN (by omega), s32, fun _ => rfl, fun q2 => ⟨_, h.top, s32, fun q3 => absurd ⟨⟨q.1, q.2, by omega⟩, q3⟩ a, fun _ => rfl⟩⟩⟩
end V5
