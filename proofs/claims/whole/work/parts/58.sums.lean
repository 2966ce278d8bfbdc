/-! the call coefficient -/
theorem gcd_em {N D : Int} : ((Int.gcd (N % D) D : Nat) : Int) = ((Int.gcd N D : Nat) : Int) := by
  have dm := dm_e N D
  refine Int.dvd_antisymm (by omega) (by omega) (Int.dvd_coe_gcd ?_ (Int.gcd_dvd_right ..)) (Int.dvd_coe_gcd ?_ (Int.gcd_dvd_right ..))
  · have a : ((Int.gcd (N % D) D : Nat) : Int) ∣ N / D * D := Int.dvd_trans (Int.gcd_dvd_right ..) (Int.dvd_mul_left ..)
    have b := Int.dvd_add a (Int.gcd_dvd_left (a := N % D) (b := D))
    rw [← dm] at b
    exact b
  · have a : ((Int.gcd N D : Nat) : Int) ∣ N / D * D := Int.dvd_trans (Int.gcd_dvd_right ..) (Int.dvd_mul_left ..)
    have b := Int.dvd_sub (Int.gcd_dvd_left (a := N) (b := D)) a
    rw [show N - N / D * D = N % D by omega] at b
    exact b
theorem lo_fr {N D : Int} (hD : 0 < D) : enV (frE N D) = N / (Int.gcd N D : Nat) ∧ (frE N D).2.2 = D / (Int.gcd N D : Nat) := by
  have g0 := pr_g (a := N) hD
  have eB : (frE N D).2.2 = D / (Int.gcd N D : Nat) := by
    show D / ((Int.gcd (N % D) D : Nat) : Int) = _
    rw [gcd_em]
  refine ⟨?_, eB⟩
  have k := enV_fr (N := N) hD
  have eN : N / (Int.gcd N D : Nat) * (Int.gcd N D : Nat) = N := Int.ediv_mul_cancel (Int.gcd_dvd_left ..)
  have eD : D / (Int.gcd N D : Nat) * (Int.gcd N D : Nat) = D := Int.ediv_mul_cancel (Int.gcd_dvd_right ..)
  rw [eB] at k
  refine Int.eq_of_mul_eq_mul_right (a := D) (by omega) ?_
  rw [k]
  have s : N * (D / (Int.gcd N D : Nat)) = N / (Int.gcd N D : Nat) * (Int.gcd N D : Nat) * (D / (Int.gcd N D : Nat)) := by rw [eN]
  rw [s, Int.mul_assoc, Int.mul_comm ((Int.gcd N D : Nat) : Int), eD]
theorem bz_jI {P : Prop} [Decidable P] : bz P = jI (if P then 1 else 0) := by
  by_cases h : P
  · rw [bz_t h, if_pos h]; rfl
  · rw [bz_f h, if_neg h]; rfl
theorem C_extraZ {n : Int} (hn : in32 n) (w : xW) : xCall 149 [.int (jI n)] w (some (.int (jI (if n = 1 then 1 else 0))), w) := by
  have a := C_extra hn w
  rw [bz_jI] at a
  exact a
theorem sm24 : ∀ n : Nat, n < 25 → -87000 ≤ rW n ∧ rW n ≤ 87000 ∧ rB n ≤ 2730 := by decide +kernel
section S8
variable {c : Nat} {E : eT} {t : Int} {ws : Nat → Int} {me : memT} {w : xW}
theorem e24 (ok : okS c E t ws me) {n : Nat} (n24 : n ≤ 24) (hn : (n : Int) ≤ t) : -93000 ≤ (E n).1 ∧ (E n).1 ≤ 93000 ∧ 0 ≤ (E n).2.1 ∧ (E n).2.1 < (E n).2.2 ∧ (E n).2.2 ≤ 2730 := by
  obtain ⟨a1, a2, a3, a4, a5, a6⟩ := ok.2.2.2.1 n hn
  have s := sm24 n (by omega)
  have r := rB_pos n (by omega)
  have hc := ok.1
  have := Int.le_of_dvd (by omega) a3
  exact ⟨by omega, by omega, a1, a2, by omega⟩
def coA (E : eT) (e : Nat) : Int := enV (E e) + (if e = 1 then (E e).2.2 else 0)
def coF (E : eT) (m j : Nat) : Int × Int × Int := if j = 0 then frE 0 1 else frE ((cb (m + 1) j : Nat) * coA E (m + 1 - j)) ((E (m + 1 - j)).2.2 * ((m : Int) + 1))
theorem cb25 {m j : Nat} (hm : m ≤ 24) : cb (m + 1) j ≤ 33554432 := by
  have a := cb_le (m + 1) j
  have b : 2 ^ (m + 1) ≤ 2 ^ 25 := Nat.pow_le_pow_right (by decide) (by omega)
  have : (2 : Nat) ^ 25 = 33554432 := by decide
  omega
theorem coA_b (ok : okS c E t ws me) {e : Nat} (e24' : e ≤ 24) (he : (e : Int) ≤ t) : -260000000 ≤ coA E e ∧ coA E e ≤ 260000000 := by
  obtain ⟨x1, x2, y0, y1, z1⟩ := e24 ok e24' he
  have m := mul_ab (a := (E e).1) (A := 93000) (b := (E e).2.2) (B := 2730) (by omega) (by omega) (by omega) (by omega)
  unfold coA enV
  split
  · exact ⟨by omega, by omega⟩
  · exact ⟨by omega, by omega⟩
def ceS (E : eT) (t m j x : Int) : Int := if (0 ≤ m ∧ m ≤ 24) ∧ (0 ≤ j ∧ j ≤ m + 1) ∧ (0 ≤ x ∧ x ≤ 1) then (if m ≤ t then (if x = 0 then enV (coF E m.toNat j.toNat) else (coF E m.toNat j.toNat).2.2) else -2) else lNO
theorem c_coefficient (ok : okS c E t ws me) {m j x : Int} (hm : in32 m) (hj : in32 j) (hx : in32 x) : cAns E t ws me E t ws me 148 [.int (jI m), .int (jI j), .int (jI x)] (.long (jL (ceS E t m j x))) := by
  intro w h
  have ht1 := ok.2.1
  have ht := ok.2.2.1
  by_cases v : (0 ≤ m ∧ m ≤ 24) ∧ (0 ≤ j ∧ j ≤ m + 1) ∧ (0 ≤ x ∧ x ≤ 1)
  · by_cases mt : m ≤ t
    · rw [show ceS E t m j x = (if x = 0 then enV (coF E m.toNat j.toNat) else (coF E m.toNat j.toNat).2.2) by unfold ceS; rw [if_pos v, if_pos mt]]
      have bc := bc36 h.1 (nw := 0) (na := 0) (nb := 1) (by decide) s64 s64
      rw [show (0 : Int) * 1 + 0 = 0 from rfl] at bc
      have f0 := fw h.1 (frE 0 1).1 (frE 0 1).2.1 (frE 0 1).2.2
      have h0 := h.f36 (frE 0 1).1 (frE 0 1).2.1 (frE 0 1).2.2
      by_cases j0 : j = 0
      · have eF : coF E m.toNat j.toNat = frE 0 1 := if_pos (by omega)
        rw [eF]
        have ol := C_overLine f0.2.1
        refine ⟨_, Z_148 h.1 ⟨hm, fun q => by omega, fun _ => ⟨fun q => by omega, fun _ => ⟨hj, fun q => by omega, fun _ => ⟨s32, fun q => by omega, fun _ => ⟨hx, fun q => by omega, fun _ => ⟨fun _ => ⟨_, h.top, s32, fun _ => ⟨_, bc, f0.1, fun _ => ⟨fun q => ⟨_, (fw0 f0.2.1).2.2, ?_⟩, fun q => ⟨_, _, ol, f0.1, ?_⟩⟩, fun q => by omega⟩, fun q => by omega⟩, fun q => by omega⟩⟩⟩⟩⟩⟩, h0, f0.2.2.mono (by decide)⟩
        · rw [if_neg q]
        · rw [if_pos q]; rfl
      · have eK : (m + 1 - j).toNat = m.toNat + 1 - j.toNat := by omega
        have eF : coF E m.toNat j.toNat = frE ((cb (m.toNat + 1) j.toNat : Nat) * coA E (m + 1 - j).toNat) ((E (m + 1 - j).toNat).2.2 * (m + 1)) := by
          unfold coF
          rw [if_neg (by omega), eK, Int.toNat_of_nonneg v.1.1]
        rw [eF]
        have eb := ok_e ok (n := m + 1 - j) (by omega) (by omega)
        obtain ⟨x1, x2, y0, y1, z1⟩ := e24 ok (n := (m + 1 - j).toNat) (by omega) (by omega)
        have ft := C_fetchF h0 ok (n := m + 1 - j) (by omega) (by omega)
        have f1 := fw h0.1 (E (m + 1 - j).toNat).1 (E (m + 1 - j).toNat).2.1 (E (m + 1 - j).toNat).2.2
        have ex := C_extraZ (n := m + 1 - j) s32 ((w.set 36 (frac (frE 0 1).1 (frE 0 1).2.1 (frE 0 1).2.2)).set 36 (frac (E (m + 1 - j).toNat).1 (E (m + 1 - j).toNat).2.1 (E (m + 1 - j).toNat).2.2))
        have xb : 0 ≤ (if m + 1 - j = 1 then (1 : Int) else 0) ∧ (if m + 1 - j = 1 then (1 : Int) else 0) ≤ 1 := by split <;> omega
        have eA : enV ((E (m + 1 - j).toNat).1 + (if m + 1 - j = 1 then (1 : Int) else 0), (E (m + 1 - j).toNat).2.1, (E (m + 1 - j).toNat).2.2) = coA E (m + 1 - j).toNat := by
          unfold coA enV
          by_cases q : m + 1 - j = 1
          · rw [if_pos q, if_pos (by omega)]
            show ((E (m + 1 - j).toNat).1 + 1) * (E (m + 1 - j).toNat).2.2 + (E (m + 1 - j).toNat).2.1 = _
            rw [Int.add_mul, Int.one_mul]; omega
          · rw [if_neg q, if_neg (by omega)]
            show ((E (m + 1 - j).toNat).1 + 0) * (E (m + 1 - j).toNat).2.2 + (E (m + 1 - j).toNat).2.1 = _
            rw [Int.add_zero, Int.add_zero]
        revert xb eA ex
        generalize (if m + 1 - j = 1 then (1 : Int) else 0) = d
        intro ex xb eA
        have pf : pF ((w.set 36 (frac (frE 0 1).1 (frE 0 1).2.1 (frE 0 1).2.2)).set 36 (frac (E (m + 1 - j).toNat).1 (E (m + 1 - j).toNat).2.1 (E (m + 1 - j).toNat).2.2)) 36 0 (.long (jL ((E (m + 1 - j).toNat).1 + d))) = ((w.set 36 (frac (frE 0 1).1 (frE 0 1).2.1 (frE 0 1).2.2)).set 36 (frac (E (m + 1 - j).toNat).1 (E (m + 1 - j).toNat).2.1 (E (m + 1 - j).toNat).2.2)).set 36 (frac ((E (m + 1 - j).toNat).1 + d) (E (m + 1 - j).toNat).2.1 (E (m + 1 - j).toNat).2.2) := pF_of f1.2.1
        have h1 := h0.f36 (E (m + 1 - j).toNat).1 (E (m + 1 - j).toNat).2.1 (E (m + 1 - j).toNat).2.2
        have f2 := fw f1.1 ((E (m + 1 - j).toNat).1 + d) (E (m + 1 - j).toNat).2.1 (E (m + 1 - j).toNat).2.2
        have h2 := h1.f36 ((E (m + 1 - j).toNat).1 + d) (E (m + 1 - j).toNat).2.1 (E (m + 1 - j).toNat).2.2
        have cc := cb25 (m := m.toNat) (j := j.toNat) (by omega)
        have o := C_of h2 (n := m + 1) (k := j) (by omega) (by omega) (by omega) (by omega)
        rw [show (m + 1).toNat = m.toNat + 1 by omega] at o
        have mb := mul_b (a := ((cb (m.toNat + 1) j.toNat : Nat) : Int)) (A := 33554432) (b := (E (m + 1 - j).toNat).2.1) (B := 2730) (by omega) (by omega) (by omega) (by omega)
        have mb2 := mul_ab (a := ((cb (m.toNat + 1) j.toNat : Nat) : Int)) (A := 33554432) (b := (E (m + 1 - j).toNat).1 + d) (B := 93001) (by omega) (by omega) (by omega) (by omega)
        have ml := mf36 (e := ((E (m + 1 - j).toNat).1 + d, (E (m + 1 - j).toNat).2.1, (E (m + 1 - j).toNat).2.2)) f2.1 (f := ((cb (m.toNat + 1) j.toNat : Nat) : Int)) f2.2.1 eb.2.2.2.1 ⟨by show _ ≤ ((cb (m.toNat + 1) j.toNat : Nat) : Int) * (E (m + 1 - j).toNat).2.1; omega, by show ((cb (m.toNat + 1) j.toNat : Nat) : Int) * (E (m + 1 - j).toNat).2.1 ≤ _; omega⟩ eb.2.2.1
        have wb : in64 (frE (((cb (m.toNat + 1) j.toNat : Nat) : Int) * enV ((E (m + 1 - j).toNat).1 + d, (E (m + 1 - j).toNat).2.1, (E (m + 1 - j).toNat).2.2)) (E (m + 1 - j).toNat).2.2).1 := by
          have q := (ge_alg (f := ((cb (m.toNat + 1) j.toNat : Nat) : Int)) (e := ((E (m + 1 - j).toNat).1 + d, (E (m + 1 - j).toNat).2.1, (E (m + 1 - j).toNat).2.2)) eb.2.2.2.1).2
          show in64 (((cb (m.toNat + 1) j.toNat : Nat) : Int) * enV ((E (m + 1 - j).toNat).1 + d, (E (m + 1 - j).toNat).2.1, (E (m + 1 - j).toNat).2.2) / (E (m + 1 - j).toNat).2.2)
          rw [q]
          show in64 (((cb (m.toNat + 1) j.toNat : Nat) : Int) * ((E (m + 1 - j).toNat).1 + d) + ((cb (m.toNat + 1) j.toNat : Nat) : Int) * (E (m + 1 - j).toNat).2.1 / (E (m + 1 - j).toNat).2.2)
          have q := dv_b (T := ((cb (m.toNat + 1) j.toNat : Nat) : Int) * (E (m + 1 - j).toNat).2.1) (U := (E (m + 1 - j).toNat).2.2) (M := 91603599360) eb.2.2.2.1 (by omega) (by omega)
          exact ⟨by omega, by omega⟩
        rw [eA] at ml wb
        have ml2 : xCall 43 [.ref 36, .long (jL ((cb (m.toNat + 1) j.toNat : Nat) : Int))] _ (none, List.set _ 36 (frac (frE (((cb (m.toNat + 1) j.toNat : Nat) : Int) * coA E (m + 1 - j).toNat) (E (m + 1 - j).toNat).2.2).1 (frE (((cb (m.toNat + 1) j.toNat : Nat) : Int) * coA E (m + 1 - j).toNat) (E (m + 1 - j).toNat).2.2).2.1 (frE (((cb (m.toNat + 1) j.toNat : Nat) : Int) * coA E (m + 1 - j).toNat) (E (m + 1 - j).toNat).2.2).2.2)) := ml
        have cmp := fr_div (N := ((cb (m.toNat + 1) j.toNat : Nat) : Int) * coA E (m + 1 - j).toNat) (D := (E (m + 1 - j).toNat).2.2) (d := m + 1) eb.2.2.2.1 (by omega)
        have fo := frE_ok (N := ((cb (m.toNat + 1) j.toNat : Nat) : Int) * coA E (m + 1 - j).toNat) eb.2.2.2.1
        have fp := frE_pos (N := ((cb (m.toNat + 1) j.toNat : Nat) : Int) * coA E (m + 1 - j).toNat) eb.2.2.2.1
        revert ml2 wb cmp fo fp
        generalize frE (((cb (m.toNat + 1) j.toNat : Nat) : Int) * coA E (m + 1 - j).toNat) (E (m + 1 - j).toNat).2.2 = g
        intro wb ml2 cmp fo fp
        have f3 := fw f2.1 g.1 g.2.1 g.2.2
        have k0 := Int.emod_nonneg g.1 (show m + 1 ≠ 0 by omega)
        have k1 := Int.emod_lt_of_pos g.1 (show 0 < m + 1 by omega)
        have q1 := mul_b (a := g.1 % (m + 1)) (A := 25) (b := g.2.2) (B := 2730) k0 (by omega) (by omega) (by omega)
        have q2 := mul_b (a := g.2.2) (A := 2730) (b := m + 1) (B := 25) (by omega) (by omega) (by omega) (by omega)
        have dv := df36 f3.1 (d := m + 1) f3.2.1 fp.1 (by omega) s64 wb ⟨by omega, by omega⟩ ⟨by omega, by omega⟩
        rw [cmp] at dv
        revert dv
        generalize frE (((cb (m.toNat + 1) j.toNat : Nat) : Int) * coA E (m + 1 - j).toNat) ((E (m + 1 - j).toNat).2.2 * (m + 1)) = r
        intro dv
        have f4 := fw f3.1 r.1 r.2.1 r.2.2
        have ol := C_overLine f4.2.1
        have sm : xsame [36] w _ := f0.2.2.trans (f1.2.2.trans (f2.2.2.trans (f3.2.2.trans f4.2.2)))
        refine ⟨_, Z_148 h.1 ⟨hm, fun q => by omega, fun _ => ⟨fun q => by omega, fun _ => ⟨hj, fun q => by omega, fun _ => ⟨s32, fun q => by omega, fun _ => ⟨hx, fun q => by omega, fun _ => ⟨fun _ => ⟨_, h.top, s32, fun _ => ⟨_, bc, f0.1, fun q => by omega, fun _ => ⟨_, ft, f1.1, _, (fw0 f1.2.1).1, _, _, ex, f1.1, ⟨by omega, by omega⟩, fun w28 e28 _ => ?_⟩⟩, fun q => by omega⟩, fun q => by omega⟩⟩⟩⟩⟩⟩, h.same sm (by decide) f4.1, sm.mono (by decide)⟩
        rw [e28, pf]
        refine ⟨_, _, o, f2.1, _, ml2, f3.1, _, dv, f4.1, fun q => ⟨_, (fw0 f4.2.1).2.2, ?_⟩, fun q => ⟨_, _, ol, f4.1, ?_⟩⟩
        · rw [if_neg q]
        · rw [if_pos q]; rfl
    · rw [show ceS E t m j x = -2 by unfold ceS; rw [if_pos v, if_neg mt]]
      exact ⟨w, Z_148 h.1 ⟨hm, fun q => by omega, fun _ => ⟨fun q => by omega, fun _ => ⟨hj, fun q => by omega, fun _ => ⟨s32, fun q => by omega, fun _ => ⟨hx, fun q => by omega, fun _ => ⟨fun _ => ⟨_, h.top, s32, fun q => by omega, fun _ => rfl⟩, fun q => by omega⟩⟩⟩⟩⟩⟩, h, xsame.rf⟩
  · rw [show ceS E t m j x = lNO from if_neg v]
    exact ⟨w, Z_148 h.1 ⟨hm, fun _ => rfl, fun q1 => ⟨fun _ => rfl, fun q2 => ⟨hj, fun _ => rfl, fun q3 => ⟨s32, fun _ => rfl, fun q4 => ⟨hx, fun _ => rfl, fun q5 => ⟨fun q6 => absurd ⟨⟨q1, q2⟩, ⟨q3, q4⟩, q5, q6⟩ v, fun _ => rfl⟩⟩⟩⟩⟩⟩, h, xsame.rf⟩
end S8
