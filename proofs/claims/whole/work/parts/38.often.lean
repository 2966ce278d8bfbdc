/-! kummerTwice -/
def e2 (x : Int) (p : Nat) : Int := (((x % ((p * p : Nat) : Int)).toNat ^ (p * (p - 1) - 1) % (p * p) : Nat) : Int)
theorem e2_b {x : Int} {p : Nat} (h : 3 ≤ p) : 0 ≤ e2 x p ∧ e2 x p < ((p * p : Nat) : Int) := by
  unfold e2
  have := Nat.mod_lt ((x % ((p * p : Nat) : Int)).toNat ^ (p * (p - 1) - 1)) (show 0 < p * p from Nat.mul_pos (by omega) (by omega))
  omega
theorem e2_one {x : Int} {p : Nat} (hp : p ∈ prN) (h : ¬ (p : Int) ∣ x) : cg ((p * p : Nat) : Int) (e2 x p * x) 1 := by
  have h3 := prN_b p hp
  have pc := pcub h3.1 h3.2
  have m0 := Int.emod_nonneg x (b := ((p * p : Nat) : Int)) (by omega)
  have e := euler2 hp h
  rw [← Int.natCast_mul] at e
  refine cg.tr (cg.mul ?_ cg.rf) e
  unfold e2
  refine cg_nmod.tr ?_
  rw [Int.natCast_pow, Int.toNat_of_nonneg m0]
  exact cg.mod.pow _
def twX (E : eT) (p : Nat) (n : Int) : Int := ((E n.toNat).1 + (E n.toNat).2.1 * e2 (E n.toNat).2.2 p) * e2 n p
def kkF (p : Nat) (n : Int) : Int := if n = 2 then 1 - p else 1
def kkS (E : eT) (p : Nat) (m n : Int) : Int := if toldS E p m ∧ toldS E p n ∧ (m - n) % ((p : Int) * ((p : Int) - 1)) = 0 then (twX E p m * kkF p m - twX E p n * kkF p n) % ((p * p : Nat) : Int) else -3
theorem kkS_no {E : eT} {p : Nat} {m n : Int} (h : ¬ (toldS E p m ∧ toldS E p n ∧ (m - n) % ((p : Int) * ((p : Int) - 1)) = 0)) : kkS E p m n = -3 := if_neg h
theorem pp1 {p : Nat} (h1 : 3 ≤ p) (h2 : p ≤ 199) : 6 ≤ (p : Int) * ((p : Int) - 1) ∧ (p : Int) * ((p : Int) - 1) ≤ 39402 := by
  have a1 : (3 : Int) * 2 ≤ (p : Int) * ((p : Int) - 1) := Int.mul_le_mul (by omega) (by omega) (by omega) (by omega)
  have a2 : (p : Int) * ((p : Int) - 1) ≤ 199 * 198 := Int.mul_le_mul (by omega) (by omega) (by omega) (by omega)
  omega
/-- the factor that the class works out -/
theorem kk_pow {p : Nat} (h1 : 3 ≤ p) {n : Int} (hn : 2 ≤ n) (he : n % 2 = 0) : 1 - ((p ^ (n.toNat - 1) % (p * p) : Nat) : Int) = kkF p n := by
  unfold kkF
  split
  · rename_i e
    subst e
    have : p ^ ((2 : Int).toNat - 1) % (p * p) = p := by
      show p ^ 1 % (p * p) = p
      rw [Nat.pow_one]
      exact Nat.mod_eq_of_lt (by have : p * 1 < p * p := Nat.mul_lt_mul_of_pos_left (by omega) (by omega); omega)
    rw [this]
  · rename_i e
    obtain ⟨k, hk⟩ : ∃ k, n.toNat - 1 = k + 2 := ⟨n.toNat - 3, by omega⟩
    rw [hk, Nat.pow_add, Nat.pow_two, Nat.mul_mod_left]
    rfl
section KK
variable {c : Nat} {E : eT} {t : Int} {ws : Nat → Int} {me : memT} {w : xW}
theorem C_kummerTwiceOf (h : cst E t ws me w) (ok : okS c E t ws me) {p : Nat} (hp : p ∈ prN) {m n : Int} (m0 : 0 ≤ m) (hm : m ≤ t) (n0 : 0 ≤ n) (hn : n ≤ t) : xCall 105 [.ref 23, .int (jI p), .int (jI m), .int (jI n)] w (some (.int (jI (kkS E p m n))), w) := by
  have h3 := prN_b p hp
  have pc := pcub h3.1 h3.2
  have q1 := pp1 h3.1 h3.2
  have ht := ok.2.2.1
  have key : ∀ x : Int, 0 ≤ x → x ≤ t → toldS E p x → ∃ v, xCall 70 [.ref 23, .int (jI x), .long (jL ((p : Int) * p))] w (some (.long (jL v)), w) ∧ cg ((p * p : Nat) : Int) v (twX E p x) ∧ -((p * p : Nat) : Int) < v ∧ v < ((p * p : Nat) : Int) := by
    intro x x0 xt hx
    have hb := e2_one hp (ndvd_of hx.2.2.2.2)
    have hn := e2_one hp (ndvd_of hx.2.2.2.1)
    have u0 := Int.emod_nonneg (e2 x p * e2 (E x.toNat).2.2 p) (b := ((p * p : Nat) : Int)) (by omega)
    have u1 := Int.emod_lt_of_pos (e2 x p * e2 (E x.toNat).2.2 p) (b := ((p * p : Nat) : Int)) (by omega)
    obtain ⟨v, k1, k2, k3, k4⟩ := C_byNumber h ok hx.1 xt (M := ((p * p : Nat) : Int)) (by omega) (by omega) u0 u1 (inv_mul hn hb)
    rw [Int.natCast_mul] at k1
    exact ⟨v, k1, k2.tr (by_alg hb), k3, k4⟩
  have pw : ∀ x : Int, 2 ≤ x → x ≤ t → xCall 50 [.long (jL (p : Int)), .int (jI (x - 1)), .long (jL ((p : Int) * p))] w (some (.long (jL ((p ^ (x.toNat - 1) % (p * p) : Nat) : Int))), w) := by
    intro x x0 xt
    have := C_powerN (a := p) (n := x.toNat - 1) (M := p * p) (by omega) (by omega) (by omega) (by omega) w
    rw [show (((x.toNat - 1 : Nat) : Nat) : Int) = x - 1 by omega, Int.natCast_mul] at this
    exact this
  refine Z_105 h.1 ⟨_, _, _, C_isTold h ok hp m0 hm, h.1, fun d => by rw [kkS_no (fun z => d z.1)], fun d => ⟨_, _, _, C_isTold h ok hp n0 hn, h.1, fun e => by rw [kkS_no (fun z => e z.2.1)], fun e => ⟨s32, s32, by omega, _, rfl, in_tm (by omega) (by omega), fun f => ?_, fun f => by rw [kkS_no (fun z => f (tm0.mpr z.2.2))]⟩⟩⟩
  obtain ⟨v1, a1, a2, a3, a4⟩ := key m m0 hm d
  obtain ⟨v2, b1, b2, b3, b4⟩ := key n n0 hn e
  have g1 := kk_pow h3.1 d.1 d.2.1
  have g2 := kk_pow h3.1 e.1 e.2.1
  have e2 : kkS E p m n = (v1 * kkF p m - v2 * kkF p n) % ((p * p : Nat) : Int) := by
    unfold kkS
    rw [if_pos ⟨d, e, tm0.mp f⟩]
    exact ((a2.mul cg.rf).sub (b2.mul cg.rf)).eq.symm
  rw [e2]
  have fb : ∀ x, -199 ≤ kkF p x ∧ kkF p x ≤ 1 := by
    intro x
    unfold kkF
    split <;> omega
  have bb : ∀ v x : Int, -((p * p : Nat) : Int) < v → v < ((p * p : Nat) : Int) → -(39601 * 199) ≤ v * kkF p x ∧ v * kkF p x ≤ 39601 * 199 := by
    intro v x y1 y2
    have := fb x
    generalize kkF p x = y at this
    have r1 : v * y ≤ 39601 * 199 ∨ 39601 * 199 < v * y := by omega
    have z1 : v.natAbs * y.natAbs ≤ 39601 * 199 := Nat.mul_le_mul (by omega) (by omega)
    have z2 : (v * y).natAbs = v.natAbs * y.natAbs := Int.natAbs_mul v y
    omega
  have c1 := bb v1 m a3 a4
  have c2 := bb v2 n b3 b4
  refine ⟨s32, _, _, a1, h.1, _, _, pw m d.1 hm, h.1, _, _, b1, h.1, _, _, pw n e.1 hn, h.1, _, _, C_least (a := v1 * (1 - ((p ^ (m.toNat - 1) % (p * p) : Nat) : Int)) - v2 * (1 - ((p ^ (n.toNat - 1) % (p * p) : Nat) : Int))) (m := (p : Int) * p) ?_ ?_ ?_ w, h.1, ?_⟩
  · rw [g1, g2]; exact s64
  · rw [← Int.natCast_mul]; exact s64
  · rw [← Int.natCast_mul]; omega
  · rw [g1, g2, Int.natCast_mul]
theorem C_twiceOf (h : mst E t ws me w) (ok : okS c E t ws me) {p : Nat} (hp : p ∈ prN) {n : Int} (n0 : 0 ≤ n) (hn : n ≤ t) : ∃ v, xCall 239 [.ref 41, .int (jI n), .int (jI p)] w (some (.long (jL v)), w) ∧ cg ((p * p : Nat) : Int) v (twX E p n) ∧ 0 ≤ v ∧ v < ((p * p : Nat) : Int) := by
  have h3 := prN_b p hp
  have pc := pcub h3.1 h3.2
  have ht := ok.2.2.1
  have b := ok_e ok n0 hn
  have a := ok.2.2.2.1 n.toNat (by omega)
  have a1 := a.1
  have a2 := a.2.1
  have k := M_nw h ht n0 hn rfl
  have eb := e2_b (x := (E n.toNat).2.2) h3.1
  have en := e2_b (x := n) h3.1
  have ex : p * (p - 1) ≤ 39601 := Nat.le_trans (Nat.mul_le_mul_left p (by omega)) pc.2.1
  have ex2 : 3 * 2 ≤ p * (p - 1) := Nat.mul_le_mul h3.1 (by omega)
  have ee : ((p * (p - 1) - 1 : Nat) : Int) = (p : Int) * ((p : Int) - 1) - 1 := by
    rw [Int.ofNat_sub (by omega), Int.natCast_mul, Int.ofNat_sub (by omega)]
    rfl
  have m0 := Int.emod_nonneg (E n.toNat).2.2 (b := ((p * p : Nat) : Int)) (by omega)
  have m1 := Int.emod_lt_of_pos (E n.toNat).2.2 (b := ((p * p : Nat) : Int)) (by omega)
  have pw1 := C_bigPower (a := ((E n.toNat).2.2 % ((p * p : Nat) : Int)).toNat) (n := p * (p - 1) - 1) (M := p * p) (by omega) (by omega) (by omega) (by omega) w
  rw [Int.toNat_of_nonneg m0, ee] at pw1
  have pw2 := C_bigPower (a := n.toNat) (n := p * (p - 1) - 1) (M := p * p) (by omega) (by omega) (by omega) (by omega) w
  rw [Int.toNat_of_nonneg n0, ee] at pw2
  have en2 : ((n.toNat ^ (p * (p - 1) - 1) % (p * p) : Nat) : Int) = e2 n p := by
    unfold e2
    congr 1
    obtain ⟨k, rfl⟩ := Int.eq_ofNat_of_zero_le n0
    rw [← Int.natCast_emod, Int.toNat_natCast, Int.toNat_natCast, ← Nat.pow_mod]
  rw [en2] at pw2
  have n1 := Int.emod_nonneg (E n.toNat).1 (b := ((p * p : Nat) : Int)) (by omega)
  have n2 := Int.emod_lt_of_pos (E n.toNat).1 (b := ((p * p : Nat) : Int)) (by omega)
  have tw := tm_b (x := (E n.toNat).1) (m := ((p * p : Nat) : Int)) (by omega)
  have o0 := Int.emod_nonneg (E n.toNat).2.1 (b := ((p * p : Nat) : Int)) (by omega)
  have o1 := Int.emod_lt_of_pos (E n.toNat).2.1 (b := ((p * p : Nat) : Int)) (by omega)
  have p1 : (E n.toNat).2.1 % ((p * p : Nat) : Int) * e2 (E n.toNat).2.2 p ≤ 39601 * 39601 := Int.mul_le_mul (by omega) (by omega) (by omega) (by omega)
  have p2 : 0 ≤ (E n.toNat).2.1 % ((p * p : Nat) : Int) * e2 (E n.toNat).2.2 p := Int.mul_nonneg (by omega) (by omega)
  have ew : (Int.tmod (E n.toNat).1 ((p * p : Nat) : Int) + ((p * p : Nat) : Int)) % ((p * p : Nat) : Int) = (E n.toNat).1 % ((p * p : Nat) : Int) := by
    refine cg.eq ?_
    have := (cg.tmod (m := ((p * p : Nat) : Int)) (x := (E n.toNat).1)).add (show cg ((p * p : Nat) : Int) ((p * p : Nat) : Int) 0 from ⟨1, by omega⟩)
    rwa [Int.add_zero] at this
  have r0 := Int.emod_nonneg ((E n.toNat).2.1 % ((p * p : Nat) : Int) * e2 (E n.toNat).2.2 p) (b := ((p * p : Nat) : Int)) (by omega)
  have r1 := Int.emod_lt_of_pos ((E n.toNat).2.1 % ((p * p : Nat) : Int) * e2 (E n.toNat).2.2 p) (b := ((p * p : Nat) : Int)) (by omega)
  have s0 := Int.emod_nonneg ((E n.toNat).1 % ((p * p : Nat) : Int) + (E n.toNat).2.1 % ((p * p : Nat) : Int) * e2 (E n.toNat).2.2 p % ((p * p : Nat) : Int)) (b := ((p * p : Nat) : Int)) (by omega)
  have s1 := Int.emod_lt_of_pos ((E n.toNat).1 % ((p * p : Nat) : Int) + (E n.toNat).2.1 % ((p * p : Nat) : Int) * e2 (E n.toNat).2.2 p % ((p * p : Nat) : Int)) (b := ((p * p : Nat) : Int)) (by omega)
  have p3 : ((E n.toNat).1 % ((p * p : Nat) : Int) + (E n.toNat).2.1 % ((p * p : Nat) : Int) * e2 (E n.toNat).2.2 p % ((p * p : Nat) : Int)) % ((p * p : Nat) : Int) * e2 n p ≤ 39601 * 39601 := Int.mul_le_mul (by omega) (by omega) (by omega) (by omega)
  have p4 : 0 ≤ ((E n.toNat).1 % ((p * p : Nat) : Int) + (E n.toNat).2.1 % ((p * p : Nat) : Int) * e2 (E n.toNat).2.2 p % ((p * p : Nat) : Int)) % ((p * p : Nat) : Int) * e2 n p := Int.mul_nonneg (by omega) (by omega)
  refine ⟨(((E n.toNat).1 % ((p * p : Nat) : Int) + (E n.toNat).2.1 % ((p * p : Nat) : Int) * e2 (E n.toNat).2.2 p % ((p * p : Nat) : Int)) % ((p * p : Nat) : Int) * e2 n p) % ((p * p : Nat) : Int), Z_239 h.1 ?_, ?_, Int.emod_nonneg _ (by omega), Int.emod_lt_of_pos _ (by omega)⟩
  · rw [← Int.natCast_mul]
    refine ⟨s32, by omega, _, k.2.2, b.2.2.1, s64, by omega, _, tmN (by omega), e2 (E n.toNat).2.2 p, _, pw1, h.1, by omega, _, k.1, b.1, by omega, _, rfl, s64, by omega, _, (tmN (by omega)).trans ew, by omega, _, k.2.1, b.2.1, by omega, _, tmN a1, s64, by omega, _, tmN p2, s64, by omega, _, tmN (by omega), s32, _, _, pw2, h.1, s64, by omega, _, tmN p4, rfl⟩
  · unfold twX
    exact cg.mod.tr (cg.mul (cg.mod.tr (cg.add cg.mod (cg.mod.tr (cg.mul cg.mod cg.rf)))) cg.rf)
theorem kk_end {M y1 y2 A B : Int} (hM : 0 < M) (h1 : 0 ≤ y1) (h2 : y2 < M) (c1 : cg M y1 A) (c2 : cg M y2 B) : Int.tmod (y1 - y2 + M) M = (A - B) % M := by
  rw [tmN (by omega)]
  refine cg.eq ?_
  have := (c1.sub c2).add (show cg M M 0 from ⟨1, by omega⟩)
  rwa [Int.add_zero] at this
def kktS (E : eT) (t p m n : Int) : Int := if isPr p ∧ (0 ≤ m ∧ m ≤ 38) ∧ (0 ≤ n ∧ n ≤ 38) then (if m ≤ t ∧ n ≤ t then kkS E p.toNat m n else -2) else -1
theorem c_kummerTwice (ok : okS c E t ws me) {p m n : Int} (hp : in32 p) (hm : in32 m) (hn : in32 n) : cAns E t ws me E t ws me 104 [.int (jI p), .int (jI m), .int (jI n)] (.int (jI (kktS E t p m n))) := by
  intro w h
  have ht1 := ok.2.1
  have ht := ok.2.2.1
  refine ⟨w, Z_104 h.1 ⟨_, _, _, C_isPrime hp h.1.noP, h.1, fun d => by unfold kktS; rw [if_neg (fun z => d z.1)], fun d => ⟨_, _, _, C_isEntry hm w, h.1, fun e => by unfold kktS; rw [if_neg (fun z => e z.2.1)], fun e => ⟨_, _, _, C_isEntry hn w, h.1, fun f => ⟨_, h.top, hm, s32, fun g => by unfold kktS; rw [if_pos ⟨d, e, f⟩, if_neg (by omega)], fun g => ⟨hn, fun k => ?_, fun k => by unfold kktS; rw [if_pos ⟨d, e, f⟩, if_neg (by omega)]⟩⟩, fun f => by unfold kktS; rw [if_neg (fun z => f z.2.2)]⟩⟩⟩, h, xsame.rf⟩
  unfold kktS
  rw [if_pos ⟨d, e, f⟩, if_pos ⟨g, k⟩]
  obtain ⟨q, hq, rfl, h1, h2⟩ := isPr_nat d
  exact ⟨_, _, C_kummerTwiceOf h ok hq e.1 g f.1 k, h.1, rfl⟩
theorem m_kummerTwice (ok : okS c E t ws me) {p m n : Int} (hp : in32 p) (hm : in32 m) (hn : in32 n) : mAns E t ws me E t ws me 238 [.int (jI p), .int (jI m), .int (jI n)] (.int (jI (kktS E t p m n))) := by
  intro w h0
  have h := h0.p0 (v := jI 0)
  have ht1 := ok.2.1
  have ht := ok.2.2.1
  refine ⟨_, Z_238 h0.1 (fun w2 e _ => ?_), h, sm_pF (by decide)⟩
  subst e
  revert h
  generalize pF w 39 0 (.int (jI 0)) = w
  intro h
  refine ⟨_, _, _, C_misPrime h hp, h.1, fun d => by unfold kktS; rw [if_neg (fun z => d z.1)], fun d => ⟨_, _, _, C_misEntry hm _, h.1, fun e => by unfold kktS; rw [if_neg (fun z => e z.2.1)], fun e => ⟨_, _, _, C_misEntry hn _, h.1, fun f => ⟨_, h.top, hm, s32, fun g => by unfold kktS; rw [if_pos ⟨d, e, f⟩, if_neg (by omega)], fun g => ⟨hn, fun k => ?_, fun k => by unfold kktS; rw [if_pos ⟨d, e, f⟩, if_neg (by omega)]⟩⟩, fun f => by unfold kktS; rw [if_neg (fun z => f z.2.2)]⟩⟩⟩
  unfold kktS
  rw [if_pos ⟨d, e, f⟩, if_pos ⟨g, k⟩]
  obtain ⟨p, hq, rfl, h1, h2⟩ := isPr_nat d
  have pc := pcub h1 h2
  have q1 := pp1 h1 h2
  rw [Int.toNat_natCast]
  have ki := kuS_in (E := E) (p := p) (m := m) (n := n) (by omega)
  refine ⟨s32, s32, by omega, _, rfl, in_tm (by omega) (by omega), fun x => by rw [kkS_no (fun z => x (tm0.mpr z.2.2))], fun x => ⟨_, _, C_mkummerOf h ok hq e.1 g f.1 k, h.1, s32, fun y => ?_, fun y => ?_⟩⟩
  · have hy : toldS E p m ∧ toldS E p n ∧ (m - n) % ((p : Int) - 1) = 0 := by
      by_cases q : toldS E p m ∧ toldS E p n ∧ (m - n) % ((p : Int) - 1) = 0
      · exact q
      · rw [kuS_no q] at y
        omega
    obtain ⟨v1, a1, a2, a3, a4⟩ := C_twiceOf h ok hq e.1 g
    obtain ⟨v2, b1, b2, b3, b4⟩ := C_twiceOf h ok hq f.1 k
    have fin : kkS E p m n = (twX E p m * kkF p m - twX E p n * kkF p n) % ((p * p : Nat) : Int) := by
      unfold kkS
      rw [if_pos ⟨hy.1, hy.2.1, tm0.mp x⟩]
    rw [fin]
    have ff : ∀ (v x : Int), 0 ≤ v → v < ((p * p : Nat) : Int) → cg ((p * p : Nat) : Int) v (twX E p x) → (x ≠ 2 → in64 (v * 1) ∧ 0 ≤ Int.tmod (v * 1) ((p * p : Nat) : Int) ∧ Int.tmod (v * 1) ((p * p : Nat) : Int) < ((p * p : Nat) : Int) ∧ cg ((p * p : Nat) : Int) (Int.tmod (v * 1) ((p * p : Nat) : Int)) (twX E p x * kkF p x)) ∧ (x = 2 → in64 (v * (((p * p : Nat) : Int) + 1 - p)) ∧ 0 ≤ Int.tmod (v * (((p * p : Nat) : Int) + 1 - p)) ((p * p : Nat) : Int) ∧ Int.tmod (v * (((p * p : Nat) : Int) + 1 - p)) ((p * p : Nat) : Int) < ((p * p : Nat) : Int) ∧ cg ((p * p : Nat) : Int) (Int.tmod (v * (((p * p : Nat) : Int) + 1 - p)) ((p * p : Nat) : Int)) (twX E p x * kkF p x)) := by
      intro v x v0 v1 vc
      refine ⟨fun hx => ?_, fun hx => ?_⟩
      · have e1 : kkF p x = 1 := if_neg hx
        rw [e1]
        refine ⟨s64, ?_, ?_, cg.tmod.tr (cg.mul vc cg.rf)⟩
        · rw [tmN (by omega)]; exact Int.emod_nonneg _ (by omega)
        · rw [tmN (by omega)]; exact Int.emod_lt_of_pos _ (by omega)
      · have e1 : kkF p x = 1 - p := if_pos hx
        have hpp : (p : Int) ≤ ((p * p : Nat) : Int) := by
          have : p * 1 ≤ p * p := Nat.mul_le_mul_left p (by omega)
          omega
        have b1 : v * (((p * p : Nat) : Int) + 1 - p) ≤ 39601 * 39602 := Int.mul_le_mul (by omega) (by omega) (by omega) (by omega)
        have b2 : 0 ≤ v * (((p * p : Nat) : Int) + 1 - p) := Int.mul_nonneg v0 (by omega)
        rw [e1]
        refine ⟨s64, ?_, ?_, cg.tmod.tr (cg.mul vc ⟨1, by omega⟩)⟩
        · rw [tmN b2]; exact Int.emod_nonneg _ (by omega)
        · rw [tmN b2]; exact Int.emod_lt_of_pos _ (by omega)
    have f1 := ff v1 m a3 a4 a2
    have f2 := ff v2 n b3 b4 b2
    have fe := @kk_end ((p * p : Nat) : Int)
    rw [← Int.natCast_mul]
    refine ⟨s32, _, _, a1, h.1, fun z => ?_, fun z => ?_⟩
    · obtain ⟨i1, i2, i3, i4⟩ := f1.1 z
      refine ⟨i1, s64, by omega, _, rfl, _, _, b1, h.1, fun z2 => ?_, fun z2 => ?_⟩
      · obtain ⟨j1, j2, j3, j4⟩ := f2.1 z2
        exact ⟨j1, by omega, _, rfl, s64, by omega, _, fe (by omega) i2 j3 i4 j4, rfl⟩
      · obtain ⟨j1, j2, j3, j4⟩ := f2.2 z2
        exact ⟨j1, by omega, _, rfl, s64, by omega, _, fe (by omega) i2 j3 i4 j4, rfl⟩
    · obtain ⟨i1, i2, i3, i4⟩ := f1.2 z
      refine ⟨i1, s64, by omega, _, rfl, _, _, b1, h.1, fun z2 => ?_, fun z2 => ?_⟩
      · obtain ⟨j1, j2, j3, j4⟩ := f2.1 z2
        exact ⟨j1, by omega, _, rfl, s64, by omega, _, fe (by omega) i2 j3 i4 j4, rfl⟩
      · obtain ⟨j1, j2, j3, j4⟩ := f2.2 z2
        exact ⟨j1, by omega, _, rfl, s64, by omega, _, fe (by omega) i2 j3 i4 j4, rfl⟩
  · have x' := tm0.mp x
    rw [kkS_no (fun z => ?_)]
    have hd : (m - n) % ((p : Int) - 1) = 0 := Int.emod_eq_zero_of_dvd (Int.dvd_trans (Int.dvd_mul_left _ _) (Int.dvd_of_emod_eq_zero x'))
    have : kuS E p m n = (kuX E p m - kuX E p n) % p := if_pos ⟨z.1, z.2.1, hd⟩
    have := Int.emod_nonneg (kuX E p m - kuX E p n) (b := (p : Int)) (by omega)
    omega
end KK
