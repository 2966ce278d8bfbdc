/-! the model's coefficients -/
section M9
variable {c : Nat} {E : eT} {t : Int} {ws : Nat → Int} {me : memT} {w : xW}
def psP (w : xW) (k : Nat) (e : Int × Int × Int) : Prop := rL w 54 k (enV e) ∧ rL w 55 k e.2.2
theorem p5455 {w : xW} (hC : CS w) {i : Nat} (hi : i < 27) (x y : Int) : rL (pL (pL w 54 i (jL x)) 55 i (jL y)) 54 i x ∧ rL (pL (pL w 54 i (jL x)) 55 i (jL y)) 55 i y ∧ xsame [54, 55] w (pL (pL w 54 i (jL x)) 55 i (jL y)) ∧ ∀ j u v, j ≠ i → rL w 54 j u → rL w 55 j v → rL (pL (pL w 54 i (jL x)) 55 i (jL y)) 54 j u ∧ rL (pL (pL w 54 i (jL x)) 55 i (jL y)) 55 j v := by
  have s1 : xsame [54] w (pL w 54 i (jL x)) := sm_pL (by decide)
  have s2 : xsame [55] (pL w 54 i (jL x)) (pL (pL w 54 i (jL x)) 55 i (jL y)) := sm_pL (by decide)
  refine ⟨(((kl_54 hC).has (by decide) hi).put).sm s2 (by decide), ((kl_55 hC.putL).has (by decide) hi).put, (s1.mono (by decide)).trans (s2.mono (by decide)), fun j u v hj h1 h2 => ⟨(h1.put hj).sm s2 (by decide), (h2.sm s1 (by decide)).put hj⟩⟩
theorem C_puts {w : xW} (hC : CS w) {k N D : Int} (k0 : 0 ≤ k) (k27 : k < 27) (n1 : -9000000000000000000 ≤ N) (n2 : N ≤ 9000000000000000000) (d1 : 0 < D) (d2 : D ≤ 9000000000000000000) : xCall 273 [.ref 39, .int (jI k), .long (jL N), .long (jL D)] w (none, pL (pL w 54 k.toNat (jL (enV (frE N D)))) 55 k.toNat (jL (frE N D).2.2)) := by
  have g0 := pr_g (a := N) d1
  have gl : ((Int.gcd N D : Nat) : Int) ≤ D := Int.le_of_dvd d1 (Int.gcd_dvd_right ..)
  have dN : N % ((Int.gcd N D : Nat) : Int) = 0 := Int.emod_eq_zero_of_dvd (Int.gcd_dvd_left ..)
  have dD : D % ((Int.gcd N D : Nat) : Int) = 0 := Int.emod_eq_zero_of_dvd (Int.gcd_dvd_right ..)
  obtain ⟨e1, e2⟩ := lo_fr (N := N) d1
  rw [e1, e2]
  exact Z_273 hC ⟨_, _, C_common hC n1 n2 (by omega) d2, hC, ⟨by omega, by omega⟩, ⟨by omega, by omega⟩, by omega, _, tdv dN (by omega), ⟨k0, k27⟩, fun w12 e12 _ => ⟨⟨by omega, by omega⟩, by omega, _, tdv dD (by omega), fun w19 e19 _ => by rw [e19, e12]⟩⟩
theorem su_alg {C M b A : Int} (hC : 0 ≤ C) (hM : 0 < M) (hb : 0 < b) : ∃ g more less too mo bo : Int, g = ((Int.gcd C M : Nat) : Int) ∧ 0 < g ∧ g ≤ M ∧ C % g = 0 ∧ M % g = 0 ∧ more = C / g ∧ less = M / g ∧ 0 ≤ more ∧ more ≤ C ∧ too = ((Int.gcd more b : Nat) : Int) ∧ 0 < too ∧ too ≤ b ∧ more % too = 0 ∧ b % too = 0 ∧ mo = more / too ∧ bo = b / too ∧ 0 ≤ mo ∧ mo ≤ C ∧ 0 < bo * less ∧ bo * less ≤ b * M ∧ frE (A * mo) (bo * less) = frE (C * A) (b * M) := by
  have g0 := pr_g (a := C) hM
  have eC : C / (Int.gcd C M : Nat) * (Int.gcd C M : Nat) = C := Int.ediv_mul_cancel (Int.gcd_dvd_left ..)
  have eM : M / (Int.gcd C M : Nat) * (Int.gcd C M : Nat) = M := Int.ediv_mul_cancel (Int.gcd_dvd_right ..)
  have g1 : ((Int.gcd C M : Nat) : Int) ≤ M := Int.le_of_dvd hM (Int.gcd_dvd_right ..)
  have m0 : 0 ≤ C / (Int.gcd C M : Nat) := Int.ediv_nonneg hC (by omega)
  have m1 : C / (Int.gcd C M : Nat) ≤ C := Int.ediv_le_self _ hC
  have t0 := pr_g (a := C / (Int.gcd C M : Nat)) hb
  have eo : C / (Int.gcd C M : Nat) / (Int.gcd (C / (Int.gcd C M : Nat)) b : Nat) * (Int.gcd (C / (Int.gcd C M : Nat)) b : Nat) = C / (Int.gcd C M : Nat) := Int.ediv_mul_cancel (Int.gcd_dvd_left ..)
  have eb : b / (Int.gcd (C / (Int.gcd C M : Nat)) b : Nat) * (Int.gcd (C / (Int.gcd C M : Nat)) b : Nat) = b := Int.ediv_mul_cancel (Int.gcd_dvd_right ..)
  have t1 : ((Int.gcd (C / (Int.gcd C M : Nat)) b : Nat) : Int) ≤ b := Int.le_of_dvd hb (Int.gcd_dvd_right ..)
  have o0 : 0 ≤ C / (Int.gcd C M : Nat) / (Int.gcd (C / (Int.gcd C M : Nat)) b : Nat) := Int.ediv_nonneg m0 (by omega)
  have o1 : C / (Int.gcd C M : Nat) / (Int.gcd (C / (Int.gcd C M : Nat)) b : Nat) ≤ C / (Int.gcd C M : Nat) := Int.ediv_le_self _ m0
  have dv1 : C % ((Int.gcd C M : Nat) : Int) = 0 := Int.emod_eq_zero_of_dvd (Int.gcd_dvd_left ..)
  have dv2 : M % ((Int.gcd C M : Nat) : Int) = 0 := Int.emod_eq_zero_of_dvd (Int.gcd_dvd_right ..)
  have dv3 : C / (Int.gcd C M : Nat) % ((Int.gcd (C / (Int.gcd C M : Nat)) b : Nat) : Int) = 0 := Int.emod_eq_zero_of_dvd (Int.gcd_dvd_left ..)
  have dv4 : b % ((Int.gcd (C / (Int.gcd C M : Nat)) b : Nat) : Int) = 0 := Int.emod_eq_zero_of_dvd (Int.gcd_dvd_right ..)
  refine ⟨_, _, _, _, _, _, rfl, g0, g1, dv1, dv2, rfl, rfl, m0, m1, rfl, t0, t1, dv3, dv4, rfl, rfl, o0, by omega, ?_⟩
  revert g0 eC eM t0 eo eb
  generalize C / (Int.gcd C M : Nat) / (Int.gcd (C / (Int.gcd C M : Nat)) b : Nat) = mo
  generalize b / (Int.gcd (C / (Int.gcd C M : Nat)) b : Nat) = bo
  generalize ((Int.gcd (C / (Int.gcd C M : Nat)) b : Nat) : Int) = too
  generalize C / (Int.gcd C M : Nat) = more
  generalize M / (Int.gcd C M : Nat) = less
  generalize ((Int.gcd C M : Nat) : Int) = g
  intro g0 eC eM t0 eo eb
  have l0 : 0 < less := Int.pos_of_mul_pos_left (by rw [eM]; exact hM) g0
  have b0 : 0 < bo := Int.pos_of_mul_pos_left (by rw [eb]; exact hb) t0
  have p0 := Int.mul_pos b0 l0
  have lM : less ≤ M := by
    have : less * 1 ≤ less * g := Int.mul_le_mul_of_nonneg_left (by omega) (by omega)
    omega
  have bb : bo ≤ b := by
    have : bo * 1 ≤ bo * too := Int.mul_le_mul_of_nonneg_left (by omega) (by omega)
    omega
  refine ⟨p0, Int.mul_le_mul bb lM (by omega) (by omega), fr_cross p0 (Int.mul_pos hb hM) ?_⟩
  rw [← eC, ← eM, ← eo, ← eb]
  ac_rfl
theorem L_sums (ok : okS c E t ws me) {m : Nat} (m24 : m ≤ 24) (mt : (m : Int) ≤ t) : ∀ (k j : Nat) (w : xW), j + k = m + 2 → 1 ≤ j → mst E t ws me w → (∀ i, i < j → psP w i (coF E m i)) →
    ∃ w', xGo 272 9 [some (.ref 39), some (.int (jI (m : Int))), some (.int (jI (j : Int))), none, none, none, none, none, none, none, none, none, none, none, none, none] [] w (none, w') ∧ mst E t ws me w' ∧ xsame [54, 55] w w' ∧ ∀ i, i ≤ m + 1 → psP w' i (coF E m i) := by
  have ht := ok.2.2.1
  intro k
  induction k with
  | zero =>
    intro j w hj j1 h H
    exact ⟨w, Z_272_9 h.1 ⟨s32, s32, fun _ => rfl, fun q => by omega⟩, h, xsame.rf, fun i hi => H i (by omega)⟩
  | succ k ih =>
    intro j w hj j1 h H
    have eb := ok_e ok (n := (m : Int) + 1 - (j : Int)) (by omega) (by omega)
    have eK : ((m : Int) + 1 - (j : Int)).toNat = m + 1 - j := by omega
    rw [eK] at eb
    have Ab := coA_b ok (e := m + 1 - j) (by omega) (by omega)
    have e24' := e24 ok (n := m + 1 - j) (by omega) (by omega)
    have cc := cb25 (m := m) (j := j) m24
    have eF : coF E m j = frE ((cb (m + 1) j : Nat) * coA E (m + 1 - j)) ((E (m + 1 - j)).2.2 * ((m : Int) + 1)) := if_neg (by omega)
    obtain ⟨g, more, less, too, mo, bo, hg, g0, g1, dv1, dv2, hmore, hless, mr0, mr1, htoo, t0, t1, dv3, dv4, hmo, hbo, o0, o1, D0, D1, eq⟩ := su_alg (C := ((cb (m + 1) j : Nat) : Int)) (M := (m : Int) + 1) (b := (E (m + 1 - j)).2.2) (A := coA E (m + 1 - j)) (by omega) (by omega) eb.2.2.2.1
    have Dm := mul_b (a := (E (m + 1 - j)).2.2) (A := 2730) (b := (m : Int) + 1) (B := 25) (by omega) (by omega) (by omega) (by omega)
    have Nm := mul_ab (a := coA E (m + 1 - j)) (A := 260000000) (b := mo) (B := 33554432) (by omega) (by omega) (by omega) (by omega)
    have pu := C_puts h.1 (k := (j : Int)) (N := coA E (m + 1 - j) * mo) (D := bo * less) (by omega) (by omega) (by omega) (by omega) D0 (by omega)
    rw [eq, ← eF, Int.toNat_natCast] at pu
    have pp := p5455 h.1 (i := j) (by omega) (enV (coF E m j)) (coF E m j).2.2
    have h2 : mst E t ws me (pL (pL w 54 j (jL (enV (coF E m j)))) 55 j (jL (coF E m j).2.2)) := h.same1 pp.2.2.1 h.1.putL.putL
    obtain ⟨w', q1, q2, q3, q4⟩ := ih (j + 1) _ (by omega) (by omega) h2 (fun i hi => by
      by_cases z : i = j
      · rw [z]; exact ⟨pp.1, pp.2.1⟩
      · have r := H i (by omega)
        exact pp.2.2.2 i _ _ z r.1 r.2)
    obtain ⟨r0, r1, r2⟩ := M_nw h ht (n := (m : Int) + 1 - (j : Int)) (by omega) (by omega) rfl
    rw [eK] at r0 r1 r2
    have rc := h.cb (n := m + 1) (k := j) (by omega) (by omega)
    rw [show 40 * (m + 1) + j = (40 * ((m : Int) + 1) + (j : Int)).toNat by omega] at rc
    have cm1 := C_common h.1 (a := ((cb (m + 1) j : Nat) : Int)) (b := (m : Int) + 1) (by omega) (by omega) (by omega) (by omega)
    rw [← hg] at cm1
    have cm2 := C_common h.1 (a := more) (b := (E (m + 1 - j)).2.2) (by omega) (by omega) (by omega) (by omega)
    rw [← htoo] at cm2
    have d1 : Int.tdiv ((cb (m + 1) j : Nat) : Int) g = more := by rw [hmore]; exact tdv dv1 (by omega)
    have d2 : Int.tdiv ((m : Int) + 1) g = less := by rw [hless]; exact tdv dv2 (by omega)
    have d3 : Int.tdiv more too = mo := by rw [hmo]; exact tdv dv3 (by omega)
    have d4 : Int.tdiv (E (m + 1 - j)).2.2 too = bo := by rw [hbo]; exact tdv dv4 (by omega)
    refine ⟨w', Z_272_9 h.1 ⟨s32, s32, fun q => by omega, fun _ => ⟨by omega, _, r0, by omega, _, r2, by omega, _, r1, by omega, _, r2, s32, fun q => ⟨by omega, _, rc, _, _, cm1, h.1, by omega, _, rc, ⟨by omega, by omega⟩, ⟨by omega, by omega⟩, by omega, _, d1, by omega, _, d2, _, _, cm2, h.1, ⟨by omega, by omega⟩, ⟨by omega, by omega⟩, by omega, _, d3, eb.2.2.1, by omega, _, d4, _, ?_, h2.1, q1⟩, fun q => ⟨by omega, _, rc, _, _, cm1, h.1, by omega, _, rc, ⟨by omega, by omega⟩, ⟨by omega, by omega⟩, by omega, _, d1, by omega, _, d2, _, _, cm2, h.1, ⟨by omega, by omega⟩, ⟨by omega, by omega⟩, by omega, _, d3, eb.2.2.1, by omega, _, d4, _, ?_, h2.1, q1⟩⟩⟩, q2, pp.2.2.1.trans q3, q4⟩
    · have eA : coA E (m + 1 - j) = (E (m + 1 - j)).1 * (E (m + 1 - j)).2.2 + (E (m + 1 - j)).2.1 := by
        unfold coA enV; rw [if_neg (by omega), Int.add_zero]
      rw [eA] at pu
      exact pu
    · have eA : coA E (m + 1 - j) = (E (m + 1 - j)).1 * (E (m + 1 - j)).2.2 + (E (m + 1 - j)).2.1 + (E (m + 1 - j)).2.2 := by
        unfold coA enV; rw [if_pos (by omega)]
      rw [eA] at pu
      exact pu
theorem C_laysSums (h : mst E t ws me w) (ok : okS c E t ws me) {m : Nat} (m24 : m ≤ 24) (mt : (m : Int) ≤ t) : ∃ w', xCall 272 [.ref 39, .int (jI (m : Int))] w (none, w') ∧ mst E t ws me w' ∧ xsame [54, 55] w w' ∧ ∀ i, i ≤ m + 1 → psP w' i (coF E m i) := by
  have pu := C_puts h.1 (k := 0) (N := 0) (D := 1) (by decide) (by decide) (by decide) (by decide) (by decide) (by decide)
  have eF : coF E m 0 = frE 0 1 := if_pos rfl
  have pp := p5455 h.1 (i := 0) (by omega) (enV (frE 0 1)) (frE 0 1).2.2
  have h2 : mst E t ws me (pL (pL w 54 0 (jL (enV (frE 0 1)))) 55 0 (jL (frE 0 1).2.2)) := h.same1 pp.2.2.1 h.1.putL.putL
  obtain ⟨w', q1, q2, q3, q4⟩ := L_sums ok m24 mt (m + 1) 1 _ (by omega) (by decide) h2 (fun i hi => by
    rw [show i = 0 by omega, eF]
    exact ⟨pp.1, pp.2.1⟩)
  exact ⟨w', Z_272 h.1 ⟨_, pu, h2.1, q1⟩, q2, pp.2.2.1.trans q3, q4⟩
theorem m_coefficient (ok : okS c E t ws me) {m j x : Int} (hm : in32 m) (hj : in32 j) (hx : in32 x) : mAns E t ws me E t ws me 271 [.int (jI m), .int (jI j), .int (jI x)] (.long (jL (ceS E t m j x))) := by
  intro w h0
  have h := h0.p0 (v := jI 0)
  have s0 : xsame mAll w (pF w 39 0 (.int (jI 0))) := sm_pF (by decide)
  have ht1 := ok.2.1
  have ht := ok.2.2.1
  by_cases v : (0 ≤ m ∧ m ≤ 24) ∧ (0 ≤ j ∧ j ≤ m + 1) ∧ (0 ≤ x ∧ x ≤ 1)
  · by_cases mt : m ≤ t
    · obtain ⟨w1, a1, a2, a3, a4⟩ := C_laysSums h ok (m := m.toNat) (by omega) (by omega)
      rw [Int.toNat_of_nonneg v.1.1] at a1
      have p := a4 j.toNat (by omega)
      rw [show ceS E t m j x = (if x = 0 then enV (coF E m.toNat j.toNat) else (coF E m.toNat j.toNat).2.2) by unfold ceS; rw [if_pos v, if_pos mt]]
      refine ⟨w1, Z_271 h0.1 (fun w3 e _ => ?_), a2, s0.trans (a3.mono (by decide))⟩
      subst e
      refine ⟨_, _, _, C_isIn hm s32 s32 _, h.1, fun q => absurd v.1 q, fun _ => ⟨_, _, _, C_isIn hj s32 s32 _, h.1, fun q => absurd v.2.1 q, fun _ => ⟨_, _, _, C_isIn hx s32 s32 _, h.1, fun _ => ⟨_, h.top, hm, s32, fun _ => ⟨_, a1, a2.1, hx, fun q => ⟨v.2.1.1, _, p.2, ?_⟩, fun q => ⟨v.2.1.1, _, p.1, ?_⟩⟩, fun q => by omega⟩, fun q => absurd v.2.2 q⟩⟩⟩
      · rw [if_neg q]
      · rw [if_pos q]
    · rw [show ceS E t m j x = -2 by unfold ceS; rw [if_pos v, if_neg mt]]
      refine ⟨_, Z_271 h0.1 (fun w3 e _ => ?_), h, s0⟩
      subst e
      exact ⟨_, _, _, C_isIn hm s32 s32 _, h.1, fun q => absurd v.1 q, fun _ => ⟨_, _, _, C_isIn hj s32 s32 _, h.1, fun q => absurd v.2.1 q, fun _ => ⟨_, _, _, C_isIn hx s32 s32 _, h.1, fun _ => ⟨_, h.top, hm, s32, fun q => by omega, fun _ => rfl⟩, fun q => absurd v.2.2 q⟩⟩⟩
  · rw [show ceS E t m j x = lNO from if_neg v]
    refine ⟨_, Z_271 h0.1 (fun w3 e _ => ?_), h, s0⟩
    subst e
    exact ⟨_, _, _, C_isIn hm s32 s32 _, h.1, fun _ => rfl, fun q1 => ⟨_, _, _, C_isIn hj s32 s32 _, h.1, fun _ => rfl, fun q2 => ⟨_, _, _, C_isIn hx s32 s32 _, h.1, fun q3 => absurd ⟨q1, q2, q3⟩ v, fun _ => rfl⟩⟩⟩
end M9
