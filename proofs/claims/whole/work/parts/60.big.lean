/-! sums of powers modulo 1000000007: the calls sum and progression -/
abbrev bG : Int := 1000000007
def bE : Nat := 1000000005
def gdV (v : Int) : Prop := cg bG (v ^ (bE + 1)) 1
def mpw (M : Nat) : Nat → Nat → Nat → Nat → Nat
  | 0, r, _, _ => r
  | f + 1, r, a, e => mpw M f (if e % 2 = 1 then r * a % M else r) (a * a % M) (e / 2)
theorem mpw_eq (M : Nat) : ∀ (f r a e : Nat), e < 2 ^ f → mpw M f r a e % M = r * a ^ e % M
  | 0, r, a, e, h => by
    have : e = 0 := by omega
    rw [this, Nat.pow_zero, Nat.mul_one]; rfl
  | f + 1, r, a, e, h => by
    have p : 2 ^ (f + 1) = 2 ^ f * 2 := Nat.pow_succ 2 f
    have ih := mpw_eq M f (if e % 2 = 1 then r * a % M else r) (a * a % M) (e / 2) (by omega)
    show mpw M f (if e % 2 = 1 then r * a % M else r) (a * a % M) (e / 2) % M = _
    rw [ih]
    by_cases q : e % 2 = 1
    · rw [if_pos q, pw_odd, show 2 * (e / 2) + 1 = e by omega]
    · rw [if_neg q, pw_even, show 2 * (e / 2) = e by omega]
theorem gd_of {p : Nat} (h : mpw 1000000007 30 1 p 1000000006 = 1) : gdV p := by
  have a := mpw_eq 1000000007 30 1 p (bE + 1) (by decide)
  have e : mpw 1000000007 30 1 p (bE + 1) = 1 := h
  rw [e, Nat.one_mul] at a
  unfold gdV
  revert a
  generalize bE + 1 = k
  intro a
  have b : cg ((1000000007 : Nat) : Int) ((p ^ k : Nat) : Int) ((p ^ k % 1000000007 : Nat) : Int) := cg_nmod.sm
  rw [← a, Int.natCast_pow] at b
  exact b
theorem gd_mul {a b : Int} (ha : gdV a) (hb : gdV b) : gdV (a * b) := by
  unfold gdV at ha hb ⊢
  rw [Int.mul_pow]
  exact ha.mul hb
theorem gd_1 : gdV 1 := by
  unfold gdV
  rw [Int.one_pow]
  exact cg.rf
def lpr : List Nat → Nat
  | [] => 1
  | p :: l => p * lpr l
theorem gd_div : ∀ l : List Nat, (∀ p ∈ l, (∀ d, d ∣ p → d = 1 ∨ d = p) ∧ 0 < p ∧ gdV p) → ∀ v : Nat, v ∣ lpr l → gdV v
  | [], _, v, h => by
    have : v = 1 := Nat.dvd_one.mp h
    rw [this]; exact gd_1
  | p :: l, H, v, h => by
    obtain ⟨h1, h2, h3⟩ := H p (by simp)
    have ih := gd_div l (fun q hq => H q (by simp [hq]))
    rcases h1 (Nat.gcd v p) (Nat.gcd_dvd_right v p) with g | g
    · have cp : Nat.Coprime v p := g
      exact ih v (Nat.Coprime.dvd_of_dvd_mul_left cp h)
    · have d : p ∣ v := by rw [← g]; exact Nat.gcd_dvd_left v p
      obtain ⟨u, rfl⟩ := d
      have du : u ∣ lpr l := Nat.dvd_of_mul_dvd_mul_left h2 h
      rw [Int.natCast_mul]
      exact gd_mul h3 (ih u du)
def gdL : List Nat := [2, 2, 2, 2, 2, 3, 3, 3, 5, 5, 5, 7, 7, 11, 11, 13, 13, 17, 17, 19, 19, 23, 23]
theorem gdL_c : ∀ p ∈ gdL, mpw 1000000007 30 1 p 1000000006 = 1 ∧ (∀ d, d < 24 → d ∣ p → d = 1 ∨ d = p) ∧ 0 < p ∧ p < 24 := by decide +kernel
theorem gd_K {v : Nat} (h : v ∣ lpr gdL) : gdV v := by
  refine gd_div gdL (fun p hp => ?_) v h
  obtain ⟨a, b, d, e⟩ := gdL_c p hp
  exact ⟨fun x hx => b x (Nat.lt_of_le_of_lt (Nat.le_of_dvd d hx) e) hx, d, gd_of a⟩
theorem gd_I {v : Int} (h0 : 0 < v) (h : v ∣ ((lpr gdL : Nat) : Int)) : gdV v := by
  have e : ((v.toNat : Nat) : Int) = v := Int.toNat_of_nonneg (by omega)
  rw [← e] at h ⊢
  exact gd_K (Int.natCast_dvd_natCast.mp h)
theorem K_c : ∀ m : Nat, m < 25 → ∀ e : Nat, e < 25 → rB e * ((m : Int) + 1) ∣ ((lpr gdL : Nat) : Int) := by decide +kernel
/-! inverses -/
def ivG (v : Int) : Int := v ^ bE % bG
theorem ivG_b (v : Int) : 0 ≤ ivG v ∧ ivG v < 1000000007 := ⟨Int.emod_nonneg _ (by decide), Int.emod_lt_of_pos _ (by decide)⟩
theorem ivG_1 {v : Int} (h : gdV v) : cg bG (ivG v * v) 1 := by
  have a : cg bG (ivG v * v) (v ^ bE * v) := cg.mod.mul cg.rf
  rw [← Int.pow_succ] at a
  exact a.tr h
theorem C_bigRest {w : xW} (hC : CS w) {v : Int} (hv : in64 v) : xCall 276 [.long (jL v)] w (some (.long (jL (v % bG))), w) := by
  have b := tm_b (x := v) (m := 1000000007) (by decide)
  have e := Int.tmod_eq_emod (a := v) (b := 1000000007)
  have m0 := Int.emod_nonneg v (show (1000000007 : Int) ≠ 0 by decide)
  have m1 := Int.emod_lt_of_pos v (show (0 : Int) < 1000000007 by decide)
  have cgv : cg 1000000007 (Int.tmod v 1000000007) v := cg.tmod
  refine Z_276 hC ⟨hv, _, rfl, ⟨by omega, by omega⟩, fun q => ?_, fun q => ?_⟩
  · have r : v % bG = Int.tmod v 1000000007 := by
      have := cgv.eq
      rw [Int.emod_eq_of_lt q b.2] at this
      exact this.symm
    rw [r]
  · have r : v % bG = Int.tmod v 1000000007 + 1000000007 := by
      have := cgv.eq
      have k : (Int.tmod v 1000000007 + 1000000007) % 1000000007 = Int.tmod v 1000000007 + 1000000007 := Int.emod_eq_of_lt (by omega) (by omega)
      rw [Int.add_emod_right] at k
      rw [← k]
      exact this.symm
    rw [r]
theorem pow_dbl (a : Int) (h : Nat) : (a * a) ^ h = a ^ (2 * h) := by
  rw [Int.pow_mul, show a ^ 2 = a * a by rw [Int.pow_succ, Int.pow_succ, Int.pow_zero, Int.one_mul]]
theorem L_277 {w : xW} (hC : CS w) {z : Int} : ∀ (f e : Nat) (r a : Int), e < 2 ^ f → e < 2147483648 → 0 ≤ r → r < 1000000007 → 0 ≤ a → a < 1000000007 →
    ∃ y, 0 ≤ y ∧ y < 1000000007 ∧ cg bG y (r * a ^ e) ∧ xGo 277 13 [some (.long (jL z)), none, some (.long (jL r)), none, some (.long (jL a)), none, some (.long (jL (e : Int))), none] [] w (some (.long (jL y)), w)
  | 0, e, r, a, h, he, r0, r1, a0, a1 => by
    have : e = 0 := by omega
    subst this
    exact ⟨r, r0, r1, by rw [Int.pow_zero, Int.mul_one]; exact cg.rf, Z_277_13 hC ⟨s64, fun _ => rfl, fun q => by omega⟩⟩
  | f + 1, e, r, a, h, he, r0, r1, a0, a1 => by
    by_cases e0 : e = 0
    · subst e0
      exact ⟨r, r0, r1, by rw [Int.pow_zero, Int.mul_one]; exact cg.rf, Z_277_13 hC ⟨s64, fun _ => rfl, fun q => by omega⟩⟩
    · have p : 2 ^ (f + 1) = 2 ^ f * 2 := Nat.pow_succ 2 f
      have aa := mul_b a0 (show a ≤ 1000000007 by omega) a0 (show a ≤ 1000000007 by omega)
      have ra := mul_b r0 (show r ≤ 1000000007 by omega) a0 (show a ≤ 1000000007 by omega)
      have s0 := Int.emod_nonneg (a * a) (show (1000000007 : Int) ≠ 0 by decide)
      have s1 := Int.emod_lt_of_pos (a * a) (show (0 : Int) < 1000000007 by decide)
      have u0 := Int.emod_nonneg (r * a) (show (1000000007 : Int) ≠ 0 by decide)
      have u1 := Int.emod_lt_of_pos (r * a) (show (0 : Int) < 1000000007 by decide)
      have ed : Int.tdiv (e : Int) 2 = ((e / 2 : Nat) : Int) := by rw [tdN (by omega)]; omega
      have pc : cg bG ((a * a % 1000000007) ^ (e / 2)) (a ^ (2 * (e / 2))) := by
        rw [← pow_dbl]
        exact cg.mod.pow _
      by_cases q : e % 2 = 1
      · obtain ⟨y, y0, y1, y2, y3⟩ := L_277 hC (z := z) f (e / 2) (r * a % 1000000007) (a * a % 1000000007) (by omega) (by omega) u0 u1 s0 s1
        refine ⟨y, y0, y1, ?_, Z_277_13 hC ⟨s64, fun z => by omega, fun _ => ⟨_, tmN (by omega), s64, fun z => by omega, fun _ => ⟨⟨by omega, by omega⟩, _, tmN ra.1, ⟨by omega, by omega⟩, _, tmN aa.1, _, ed, y3⟩⟩⟩⟩
        refine y2.tr ((cg.mod.mul pc).tr (cg_eq ?_))
        rw [show e = 2 * (e / 2) + 1 by omega, Int.pow_succ, show (2 * (e / 2) + 1) / 2 = e / 2 by omega]
        ac_rfl
      · obtain ⟨y, y0, y1, y2, y3⟩ := L_277 hC (z := z) f (e / 2) r (a * a % 1000000007) (by omega) (by omega) r0 r1 s0 s1
        refine ⟨y, y0, y1, ?_, Z_277_13 hC ⟨s64, fun z => by omega, fun _ => ⟨_, tmN (by omega), s64, fun _ => ⟨⟨by omega, by omega⟩, _, tmN aa.1, _, ed, y3⟩, fun z => by omega⟩⟩⟩
        have k := cg.mul (cg.rf (m := bG) (x := r)) pc
        rw [show 2 * (e / 2) = e by omega] at k
        exact y2.tr k
theorem C_minverse {w : xW} (hC : CS w) {v : Int} (hv : in64 v) : xCall 277 [.long (jL v)] w (some (.long (jL (ivG v))), w) := by
  have m0 := Int.emod_nonneg v (show (1000000007 : Int) ≠ 0 by decide)
  have m1 := Int.emod_lt_of_pos v (show (0 : Int) < 1000000007 by decide)
  obtain ⟨y, y0, y1, y2, y3⟩ := L_277 hC (z := v) 30 bE 1 (v % bG) (by decide) (by decide) (by decide) (by decide) m0 m1
  rw [Int.one_mul] at y2
  have ib := ivG_b v
  have e : y = ivG v := cg.lt (m := bG) (y2.tr ((cg.mod.pow bE).tr cg.mod.sm)) y0 y1 ib.1 ib.2
  rw [e] at y3
  exact Z_277 hC ⟨_, _, C_bigRest hC hv, hC, y3⟩
section B0
variable {c : Nat} {E : eT} {t : Int} {ws : Nat → Int} {me : memT} {w : xW}
theorem gd_b (ok : okS c E t ws me) {n : Nat} (n24 : n ≤ 24) (hn : (n : Int) ≤ t) : gdV (E n).2.2 := by
  obtain ⟨a1, a2, a3, a4, a5, a6⟩ := ok.2.2.2.1 n hn
  have k := K_c 0 (by decide) n (by omega)
  exact gd_I (by omega) (Int.dvd_trans a3 (Int.dvd_trans (Int.dvd_mul_right ..) k))
theorem gd_m {m : Nat} (m24 : m ≤ 24) : gdV ((m : Int) + 1) := by
  have k := K_c m (by omega) 0 (by decide)
  exact gd_I (by omega) (Int.dvd_trans (Int.dvd_mul_left ..) k)
theorem gd_co (ok : okS c E t ws me) {m j : Nat} (m24 : m ≤ 24) (mt : (m : Int) ≤ t) (jm : j ≤ m + 1) : gdV (coF E m j).2.2 ∧ 0 < (coF E m j).2.2 ∧ (coF E m j).2.2 ≤ 68250 := by
  unfold coF
  by_cases j0 : j = 0
  · rw [if_pos j0]
    have fp := frE_pos (N := 0) (D := 1) (by decide)
    have e : (frE 0 1).2.2 = 1 := by omega
    rw [e]
    exact ⟨gd_1, by decide, by decide⟩
  · rw [if_neg j0]
    obtain ⟨a1, a2, a3, a4, a5, a6⟩ := ok.2.2.2.1 (m + 1 - j) (by omega)
    obtain ⟨x1, x2, y0, y1, z1⟩ := e24 ok (n := m + 1 - j) (by omega) (by omega)
    have Dp : 0 < (E (m + 1 - j)).2.2 * ((m : Int) + 1) := Int.mul_pos (by omega) (by omega)
    have D1 := mul_b (a := (E (m + 1 - j)).2.2) (A := 2730) (b := (m : Int) + 1) (B := 25) (by omega) (by omega) (by omega) (by omega)
    have fo := frE_ok (N := (cb (m + 1) j : Nat) * coA E (m + 1 - j)) Dp
    have fp := frE_pos (N := (cb (m + 1) j : Nat) * coA E (m + 1 - j)) Dp
    have k := K_c m (by omega) (m + 1 - j) (by omega)
    exact ⟨gd_I fp.1 (Int.dvd_trans fo.2.2.1 (Int.dvd_trans (Int.mul_dvd_mul a3 (Int.dvd_refl _)) k)), fp.1, by omega⟩
/-! what both work out -/
def tcB (E : eT) (m : Nat) : Nat → Int := fun j => if j = 0 then 0 else (cb (m + 1) j : Nat) * (coA E (m + 1 - j) * ivG (E (m + 1 - j)).2.2)
def smV (E : eT) (m : Nat) (n : Int) : Int := evP (tcB E m) n (m + 2) 0 * ivG ((m : Int) + 1) % bG
theorem smV_b (E : eT) (m : Nat) (n : Int) : 0 ≤ smV E m n ∧ smV E m n < 1000000007 := ⟨Int.emod_nonneg _ (by decide), Int.emod_lt_of_pos _ (by decide)⟩
theorem evP_cg {M a i : Int} {co d : Nat → Int} : ∀ (m j : Nat), (∀ k, k < j + m → cg M (co k) (d k * i)) → cg M (evP co a m j) (evP d a m j * i)
  | 0, j, _ => by
    show cg M 0 (0 * i)
    rw [Int.zero_mul]; exact cg.rf
  | m + 1, j, h => by
    have ih := evP_cg (a := a) m (j + 1) (fun k hk => h k (by omega))
    show cg M (co j + a * evP co a m (j + 1)) ((d j + a * evP d a m (j + 1)) * i)
    rw [Int.add_mul, Int.mul_assoc]
    exact (h j (by omega)).add (cg.rf.mul ih)
theorem mc_cg (ok : okS c E t ws me) {m j : Nat} (m24 : m ≤ 24) (mt : (m : Int) ≤ t) (jm : j ≤ m + 1) : cg bG (enV (coF E m j) * ivG (coF E m j).2.2) (tcB E m j * ivG ((m : Int) + 1)) := by
  unfold tcB
  by_cases j0 : j = 0
  · have e : coF E m j = frE 0 1 := if_pos j0
    have z : enV (frE 0 1) = 0 := by decide +kernel
    rw [if_pos j0, e, z, Int.zero_mul, Int.zero_mul]
    exact cg.rf
  · rw [if_neg j0]
    have gc := gd_co ok m24 mt jm
    have e : coF E m j = frE ((cb (m + 1) j : Nat) * coA E (m + 1 - j)) ((E (m + 1 - j)).2.2 * ((m : Int) + 1)) := if_neg j0
    obtain ⟨x1, x2, y0, y1, z1⟩ := e24 ok (n := m + 1 - j) (by omega) (by omega)
    have Dp : 0 < (E (m + 1 - j)).2.2 * ((m : Int) + 1) := Int.mul_pos (by omega) (by omega)
    have k := enV_fr (N := (cb (m + 1) j : Nat) * coA E (m + 1 - j)) Dp
    rw [← e] at k
    have i1 := ivG_1 gc.1
    have i2 := ivG_1 (gd_b ok (n := m + 1 - j) (by omega) (by omega))
    have i3 := ivG_1 (gd_m m24)
    revert k i1 i2 i3
    generalize enV (coF E m j) = V
    generalize (coF E m j).2.2 = B
    generalize coA E (m + 1 - j) = A
    generalize (E (m + 1 - j)).2.2 = b
    generalize ((cb (m + 1) j : Nat) : Int) = C
    generalize (m : Int) + 1 = M
    intro k i1 i2 i3
    have s1 : cg bG (V * ivG B) (V * ivG B * ((ivG b * b) * (ivG M * M))) := by
      have := cg.mul (cg.rf (m := bG) (x := V * ivG B)) (i2.mul i3)
      rw [Int.mul_one, Int.mul_one] at this
      exact this.sm
    have s2 : V * ivG B * ((ivG b * b) * (ivG M * M)) = V * (b * M) * (ivG B * ivG b * ivG M) := by ac_rfl
    have s3 : C * A * B * (ivG B * ivG b * ivG M) = (ivG B * B) * (C * (A * ivG b) * ivG M) := by ac_rfl
    rw [s2, k, s3] at s1
    have s4 := cg.mul i1 (cg.rf (m := bG) (x := C * (A * ivG b) * ivG M))
    rw [Int.one_mul] at s4
    exact s1.tr s4
/-! the model's -/
theorem L_sumAt (h : mst E t ws me w) (ok : okS c E t ws me) {m : Nat} {n : Int} (m24 : m ≤ 24) (mt : (m : Int) ≤ t) (n0 : 0 ≤ n) (n1 : n ≤ 1000000000) (H : ∀ i, i ≤ m + 1 → psP w i (coF E m i)) : ∀ (j : Nat) (T : Int), j ≤ m + 2 → 0 ≤ T → T < 1000000007 → cg bG T (evP (fun j => enV (coF E m j) * ivG (coF E m j).2.2) n (m + 2 - j) j) →
    xGo 275 12 [some (.ref 39), some (.int (jI (m : Int))), some (.int (jI n)), some (.long (jL T)), none, some (.int (jI ((j : Int) - 1)))] [] w (some (.long (jL (smV E m n))), w) := by
  intro j
  induction j with
  | zero =>
    intro T hj T0 T1 hT
    have s := smV_b E m n
    have k := evP_cg (M := bG) (a := n) (i := ivG ((m : Int) + 1)) (co := fun j => enV (coF E m j) * ivG (coF E m j).2.2) (d := tcB E m) (m + 2) 0 (fun k hk => mc_cg ok m24 mt (by omega))
    have e : T = smV E m n := cg.lt (m := bG) (hT.tr (k.tr cg.mod.sm)) T0 T1 s.1 s.2
    rw [e]
    exact Z_275_12 h.1 ⟨s32, fun _ => rfl, fun q => by omega⟩
  | succ j ih =>
    intro T hj T0 T1 hT
    have p := H j (by omega)
    have gc := gd_co ok (j := j) m24 mt (by omega)
    have ib := ivG_b (coF E m j).2.2
    have m0 := Int.emod_nonneg (enV (coF E m j)) (show bG ≠ 0 by decide)
    have m1 := Int.emod_lt_of_pos (enV (coF E m j)) (show 0 < bG by decide)
    have vb : in64 (enV (coF E m j)) := by
      unfold coF
      by_cases j0 : j = 0
      · rw [if_pos j0, show enV (frE 0 1) = 0 by decide +kernel]; exact s64
      · rw [if_neg j0]
        obtain ⟨x1, x2, y0, y1, z1⟩ := e24 ok (n := m + 1 - j) (by omega) (by omega)
        have Dp : 0 < (E (m + 1 - j)).2.2 * ((m : Int) + 1) := Int.mul_pos (by omega) (by omega)
        have Ab := coA_b ok (e := m + 1 - j) (by omega) (by omega)
        have cc := cb25 (m := m) (j := j) m24
        have Nb := mul_ab (a := ((cb (m + 1) j : Nat) : Int)) (A := 33554432) (b := coA E (m + 1 - j)) (B := 260000000) (by omega) (by omega) (by omega) (by omega)
        rw [(lo_fr Dp).1]
        have g0 := pr_g (a := (cb (m + 1) j : Nat) * coA E (m + 1 - j)) Dp
        have q := dv_b (T := (cb (m + 1) j : Nat) * coA E (m + 1 - j)) (U := ((Int.gcd ((cb (m + 1) j : Nat) * coA E (m + 1 - j)) ((E (m + 1 - j)).2.2 * ((m : Int) + 1)) : Nat) : Int)) (M := 8724152320000000) g0 (by omega) (by omega)
        exact ⟨by omega, by omega⟩
    have tn := mul_b T0 (show T ≤ 1000000007 by omega) n0 n1
    have rr := mul_b m0 (show enV (coF E m j) % bG ≤ 1000000007 from Int.le_of_lt m1) ib.1 (show ivG (coF E m j).2.2 ≤ 1000000007 by omega)
    have y0 := Int.emod_nonneg (T * n + enV (coF E m j) % bG * ivG (coF E m j).2.2) (show bG ≠ 0 by decide)
    have y1 := Int.emod_lt_of_pos (T * n + enV (coF E m j) % bG * ivG (coF E m j).2.2) (show 0 < bG by decide)
    have step : cg bG ((T * n + enV (coF E m j) % bG * ivG (coF E m j).2.2) % bG) (evP (fun j => enV (coF E m j) * ivG (coF E m j).2.2) n (m + 2 - j) j) := by
      rw [show m + 2 - j = (m + 2 - (j + 1)) + 1 by omega]
      show cg bG _ (enV (coF E m j) * ivG (coF E m j).2.2 + n * evP (fun j => enV (coF E m j) * ivG (coF E m j).2.2) n (m + 2 - (j + 1)) (j + 1))
      rw [Int.add_comm (enV (coF E m j) * ivG (coF E m j).2.2), Int.mul_comm n]
      exact cg.mod.tr ((hT.mul cg.rf).add (cg.mod.mul cg.rf))
    have g := ih _ (by omega) y0 y1 step
    rw [show (((j + 1 : Nat) : Int) - 1) = (j : Int) by omega]
    exact Z_275_12 h.1 ⟨s32, fun q => by omega, fun _ => ⟨s32, by omega, _, p.1, _, _, C_bigRest h.1 vb, h.1, by omega, _, p.2, _, _, C_minverse h.1 (v := (coF E m j).2.2) ⟨by omega, by omega⟩, h.1, ⟨by omega, by omega⟩, _, tmN (by omega), g⟩⟩
theorem C_sumAt (h : mst E t ws me w) (ok : okS c E t ws me) {m : Nat} {n : Int} (m24 : m ≤ 24) (mt : (m : Int) ≤ t) (n0 : 0 ≤ n) (n1 : n ≤ 1000000000) : ∃ w', xCall 275 [.ref 39, .int (jI (m : Int)), .int (jI n)] w (some (.long (jL (smV E m n))), w') ∧ mst E t ws me w' ∧ xsame [54, 55] w w' := by
  obtain ⟨w', q1, q2, q3, q4⟩ := C_laysSums h ok m24 mt
  have g := L_sumAt q2 ok m24 mt n0 n1 q4 (m + 2) 0 (by omega) (by decide) (by decide) (by rw [Nat.sub_self]; exact cg.rf)
  rw [show (((m + 2 : Nat) : Int) - 1) = (m : Int) + 1 by omega] at g
  exact ⟨w', Z_275 h.1 ⟨_, q1, q2.1, g⟩, q2, q3⟩
end B0
