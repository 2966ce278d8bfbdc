/-! kummer, kummerTwice -/
theorem tm0 {a b : Int} : Int.tmod a b = 0 ↔ a % b = 0 := ⟨fun h => Int.emod_eq_zero_of_dvd (Int.dvd_of_tmod_eq_zero h), fun h => Int.tmod_eq_zero_of_dvd (Int.dvd_of_emod_eq_zero h)⟩
theorem in_tm {a b : Int} (h : 0 < b) (hb : b ≤ 2147483647) : in32 (Int.tmod a b) := by
  have := tm_b (x := a) h
  exact ⟨by omega, by omega⟩
theorem in_tmL {a b : Int} (h : 0 < b) (hb : b ≤ 2147483647) : in64 (Int.tmod a b) := in3264 (in_tm h hb)
abbrev toldS (E : eT) (p : Nat) (n : Int) : Prop := 2 ≤ n ∧ n % 2 = 0 ∧ n % ((p : Int) - 1) ≠ 0 ∧ n % p ≠ 0 ∧ (E n.toNat).2.2 % p ≠ 0
def kuX (E : eT) (p : Nat) (n : Int) : Int := resV (E n.toNat) p * fi n p
def kuS (E : eT) (p : Nat) (m n : Int) : Int := if toldS E p m ∧ toldS E p n ∧ (m - n) % ((p : Int) - 1) = 0 then (kuX E p m - kuX E p n) % p else -3
theorem kuS_no {E : eT} {p : Nat} {m n : Int} (h : ¬ (toldS E p m ∧ toldS E p n ∧ (m - n) % ((p : Int) - 1) = 0)) : kuS E p m n = -3 := if_neg h
theorem kuS_in {E : eT} {p : Nat} {m n : Int} (h : 0 < p) : -3 ≤ kuS E p m n ∧ kuS E p m n < p := by
  unfold kuS
  split
  · have h1 := Int.emod_nonneg (kuX E p m - kuX E p n) (b := (p : Int)) (by omega)
    have h2 := Int.emod_lt_of_pos (kuX E p m - kuX E p n) (b := (p : Int)) (by omega)
    omega
  · omega
/-- the residue by the number: both ways alike -/
theorem by_alg {M w a b fb fn : Int} (hb : cg M (fb * b) 1) : cg M ((w * b + a) * ((fn * fb) % M)) ((w + a * fb) * fn) := by
  refine (cg.mul cg.rf cg.mod).tr ?_
  have e1 : (w * b + a) * (fn * fb) = (w * (fb * b) + a * fb) * fn := by
    rw [Int.add_mul, Int.add_mul, Int.mul_assoc w b, Int.mul_left_comm b, Int.mul_comm b fb, Int.mul_assoc w (fb * b) fn, Int.mul_comm fn, Int.mul_comm fn, Int.mul_assoc a fb fn]
  rw [e1]
  refine cg.mul (cg.add ?_ cg.rf) cg.rf
  have := (cg.rf (m := M) (x := w)).mul hb
  rwa [Int.mul_one] at this
theorem inv_mul {M fn fb n b : Int} (hn : cg M (fn * n) 1) (hb : cg M (fb * b) 1) : cg M ((fn * fb) % M * (n * b)) 1 := by
  refine (cg.mul cg.mod cg.rf).tr ?_
  have e : fn * fb * (n * b) = fn * n * (fb * b) := by
    rw [Int.mul_assoc, Int.mul_assoc, Int.mul_left_comm fb]
  rw [e]
  have := hn.mul hb
  rwa [Int.mul_one] at this
section KU
variable {c : Nat} {E : eT} {t : Int} {ws : Nat → Int} {me : memT} {w : xW}
theorem C_isTold (h : cst E t ws me w) (ok : okS c E t ws me) {p : Nat} (hp : p ∈ prN) {n : Int} (h0 : 0 ≤ n) (hn : n ≤ t) : xCall 69 [.ref 23, .int (jI p), .int (jI n)] w (some (.int (bz (toldS E p n))), w) := by
  have ht := ok.2.2.1
  have h3 := prN_b p hp
  have n32 : in32 n := s32
  have b := ok_e ok h0 hn
  refine Z_69 h.1 ⟨s32, fun d => by omega, fun d => ⟨_, _, _, C_isEven n32 w, h.1, fun e => by rw [bz_f (fun z => e ⟨z.1, z.2.1⟩)]; rfl, fun e => ⟨n32, s32, by omega, _, tmN h0, ?_, fun f => by rw [bz_f (fun z => z.2.2.1 f)]; rfl, fun f => ⟨by omega, _, tmN h0, ?_, fun g => by rw [bz_f (fun z => z.2.2.2.1 g)]; rfl, fun g => ⟨_, _, N_below h ht h0 hn, h.1, b.2.2.1, by omega, _, tmN (by omega), ?_, fun k => by rw [bz_f (fun z => z.2.2.2.2 k)]; rfl, fun k => by rw [bz_t ⟨e.1, e.2, f, g, k⟩]; rfl⟩⟩⟩⟩⟩
  · rw [← tmN h0]; exact in_tm (by omega) (by omega)
  · rw [← tmN h0]; exact in_tm (by omega) (by omega)
  · rw [← tmN (by omega)]; exact in_tmL (by omega) (by omega)
/-- the class's residue of an entry by its number -/
theorem C_byNumber (h : cst E t ws me w) (ok : okS c E t ws me) {n : Int} (h0 : 2 ≤ n) (hn : n ≤ t) {M u : Int} (hM : 2 ≤ M) (hM2 : M ≤ 39601) (u0 : 0 ≤ u) (u1 : u < M) (hu : cg M (u * (n * (E n.toNat).2.2)) 1) : ∃ v, xCall 70 [.ref 23, .int (jI n), .long (jL M)] w (some (.long (jL v)), w) ∧ cg M v (((E n.toNat).1 * (E n.toNat).2.2 + (E n.toNat).2.1) * u) ∧ -M < v ∧ v < M := by
  have ht := ok.2.2.1
  have b := ok_e ok (n := n) (by omega) hn
  have a := ok.2.2.2.1 n.toNat (by omega)
  have a1 := a.1
  have a2 := a.2.1
  have t1 := tm_b (x := (E n.toNat).1) (m := M) (by omega)
  have p1 : -(39601 * 1919190) ≤ Int.tmod (E n.toNat).1 M * (E n.toNat).2.2 ∧ Int.tmod (E n.toNat).1 M * (E n.toNat).2.2 ≤ 39601 * 1919190 := by
    generalize Int.tmod (E n.toNat).1 M = x at t1
    have q1 : x * (E n.toNat).2.2 ≤ 39601 * (E n.toNat).2.2 := Int.mul_le_mul_of_nonneg_right (by omega) (by omega)
    have q2 : -39601 * (E n.toNat).2.2 ≤ x * (E n.toNat).2.2 := Int.mul_le_mul_of_nonneg_right (by omega) (by omega)
    omega
  have t2 := tm_b (x := Int.tmod (E n.toNat).1 M * (E n.toNat).2.2 + (E n.toNat).2.1) (m := M) (by omega)
  have p2 : -(39601 * 39601) ≤ Int.tmod (Int.tmod (E n.toNat).1 M * (E n.toNat).2.2 + (E n.toNat).2.1) M * u ∧ Int.tmod (Int.tmod (E n.toNat).1 M * (E n.toNat).2.2 + (E n.toNat).2.1) M * u ≤ 39601 * 39601 := by
    generalize Int.tmod (Int.tmod (E n.toNat).1 M * (E n.toNat).2.2 + (E n.toNat).2.1) M = x at t2
    have q1 : x * u ≤ 39601 * u := Int.mul_le_mul_of_nonneg_right (by omega) u0
    have q2 : -39601 * u ≤ x * u := Int.mul_le_mul_of_nonneg_right (by omega) u0
    omega
  have nb : n * (E n.toNat).2.2 ≤ 38 * 1919190 := Int.mul_le_mul (by omega) (by omega) (by omega) (by omega)
  have nb0 : 0 ≤ n * (E n.toNat).2.2 := Int.mul_nonneg (by omega) (by omega)
  refine ⟨_, Z_70 h.1 ⟨s64, fun _ => ⟨_, _, N_below h ht (by omega) hn, h.1, _, _, N_whole h ht (by omega) hn, h.1, b.1, by omega, _, rfl, _, _, N_above h ht (by omega) hn, h.1, s64, by omega, _, rfl, s32, _, _, C_invN s64 hM (by omega) u0 u1 hu w, h.1, s64, by omega, _, rfl, rfl⟩, fun q => by omega⟩, ?_, tm_b (by omega)⟩
  exact cg.tmod.tr (cg.mul (cg.tmod.tr (cg.add (cg.mul cg.tmod cg.rf) cg.rf)) cg.rf)
theorem ndvd_of {a p : Int} (h : a % p ≠ 0) : ¬ p ∣ a := fun q => h (Int.emod_eq_zero_of_dvd q)
theorem C_kummerOf (h : cst E t ws me w) (ok : okS c E t ws me) {p : Nat} (hp : p ∈ prN) {m n : Int} (m0 : 0 ≤ m) (hm : m ≤ t) (n0 : 0 ≤ n) (hn : n ≤ t) : xCall 68 [.ref 23, .int (jI p), .int (jI m), .int (jI n)] w (some (.int (jI (kuS E p m n))), w) := by
  have h3 := prN_b p hp
  have ht := ok.2.2.1
  have key : ∀ x : Int, 0 ≤ x → x ≤ t → toldS E p x → ∃ v, xCall 70 [.ref 23, .int (jI x), .long (jL (p : Int))] w (some (.long (jL v)), w) ∧ cg p v (kuX E p x) ∧ -(p : Int) < v ∧ v < p := by
    intro x x0 xt hx
    have hb := fi_one hp (ndvd_of hx.2.2.2.2)
    have hn := fi_one hp (ndvd_of hx.2.2.2.1)
    have u0 := Int.emod_nonneg (fi x p * fi (E x.toNat).2.2 p) (b := (p : Int)) (by omega)
    have u1 := Int.emod_lt_of_pos (fi x p * fi (E x.toNat).2.2 p) (b := (p : Int)) (by omega)
    obtain ⟨v, k1, k2, k3, k4⟩ := C_byNumber h ok hx.1 xt (M := (p : Int)) (by omega) (by omega) u0 u1 (inv_mul hn hb)
    refine ⟨v, k1, k2.tr ((by_alg hb).tr ?_), k3, k4⟩
    unfold kuX resV
    exact cg.mul cg.mod.sm cg.rf
  refine Z_68 h.1 ⟨_, _, _, C_isTold h ok hp m0 hm, h.1, fun d => by rw [kuS_no (fun z => d z.1)], fun d => ⟨_, _, _, C_isTold h ok hp n0 hn, h.1, fun e => by rw [kuS_no (fun z => e z.2.1)], fun e => ⟨s32, s32, by omega, _, rfl, in_tm (by omega) (by omega), fun f => ?_, fun f => by rw [kuS_no (fun z => f (tm0.mpr z.2.2))]⟩⟩⟩
  obtain ⟨v1, a1, a2, a3, a4⟩ := key m m0 hm d
  obtain ⟨v2, b1, b2, b3, b4⟩ := key n n0 hn e
  have e2 : kuS E p m n = (v1 - v2) % p := by
    unfold kuS
    rw [if_pos ⟨d, e, tm0.mp f⟩]
    exact (a2.sub b2).eq.symm
  rw [e2]
  exact ⟨s32, _, _, a1, h.1, _, _, b1, h.1, _, _, C_least s64 s64 (by omega) w, h.1, rfl⟩
theorem fi_nat {x : Int} {p : Nat} (h0 : 0 ≤ x) (h3 : 3 ≤ p) (hp : p ≤ 199) (w : xW) : xCall 216 [.int (jI (x % p)), .int (jI ((p : Int) - 2)), .int (jI p)] w (some (.int (jI (fi x p))), w) := by
  have m0 := Int.emod_nonneg x (b := (p : Int)) (by omega)
  have m1 := Int.emod_lt_of_pos x (b := (p : Int)) (by omega)
  have hpw := C_mpower (a := (x % p).toNat) (n := p - 2) (p := p) (by omega) (by omega) (by omega) (by omega) w
  rw [Int.toNat_of_nonneg m0, show (((p - 2 : Nat) : Nat) : Int) = (p : Int) - 2 by omega] at hpw
  exact hpw
theorem resS_neg {e : Int × Int × Int} {p : Nat} (h : 0 < p) : resS e p < 0 ↔ e.2.2 % p = 0 := by
  have := resV_le (e := e) h
  unfold resS
  split
  · rename_i hd
    exact ⟨fun _ => Int.emod_eq_zero_of_dvd hd, fun _ => by decide⟩
  · rename_i hd
    exact ⟨fun q => by omega, fun q => absurd (Int.dvd_of_emod_eq_zero q) hd⟩
theorem C_restOfZ (h : mst E t ws me w) (ok : okS c E t ws me) {p : Nat} (hp : p ∈ prN) {n : Int} (h0 : 0 ≤ n) (hn : n ≤ t) : xCall 214 [.ref 39, .ref 41, .int (jI n), .int (jI p)] w (some (.int (jI (resS (E n.toNat) p))), w) := by
  obtain ⟨k, rfl⟩ := Int.eq_ofNat_of_zero_le h0
  exact C_restOf h ok hn hp
theorem mod_same {m n k : Int} (h : (m - n) % k = 0) : m % k = 0 ↔ n % k = 0 := by
  have e := emod_of_dvd_sub (Int.dvd_of_emod_eq_zero h)
  rw [e]
theorem C_mkummerOf (h : mst E t ws me w) (ok : okS c E t ws me) {p : Nat} (hp : p ∈ prN) {m n : Int} (m0 : 0 ≤ m) (hm : m ≤ t) (n0 : 0 ≤ n) (hn : n ≤ t) : xCall 213 [.ref 39, .int (jI p), .int (jI m), .int (jI n)] w (some (.int (jI (kuS E p m n))), w) := by
  have h3 := prN_b p hp
  have ht := ok.2.2.1
  have rb1 := resS_le (e := E m.toNat) (p := p) (by omega)
  have rb2 := resS_le (e := E n.toNat) (p := p) (by omega)
  refine Z_213 h.1 ⟨s32, fun d => by rw [kuS_no (fun z => by have := z.1.1; omega)], fun d => ⟨s32, fun e => by rw [kuS_no (fun z => by have := z.2.1.1; omega)], fun e => ⟨_, tmN m0, s32, fun f => by rw [kuS_no (fun z => by have := z.1.2.1; omega)], fun f => ⟨_, tmN n0, s32, fun g => by rw [kuS_no (fun z => by have := z.2.1.2.1; omega)], fun g => ⟨s32, s32, by omega, _, rfl, in_tm (by omega) (by omega), fun k => by rw [kuS_no (fun z => k (tm0.mpr z.2.2))], fun k => ⟨by omega, _, rfl, in_tm (by omega) (by omega), fun l => by rw [kuS_no (fun z => z.1.2.2.1 (tm0.mp l))], fun l => ⟨s32, by omega, _, rfl, in_tm (by omega) (by omega), fun o => by rw [kuS_no (fun z => z.1.2.2.2.1 (tm0.mp o))], fun o => ⟨by omega, _, rfl, in_tm (by omega) (by omega), fun q => ⟨_, _, C_restOfZ h ok hp m0 hm, h.1, _, _, C_restOfZ h ok hp n0 hn, h.1, s32, fun x => by rw [kuS_no (fun z => z.1.2.2.2.2 ((resS_neg (by omega)).mp x))], fun x => ⟨s32, fun y => ?_, fun y => by rw [kuS_no (fun z => z.2.1.2.2.2.2 ((resS_neg (by omega)).mp y))]⟩⟩, fun q => by rw [kuS_no (fun z => z.2.1.2.2.2.1 (tm0.mp q))]⟩⟩⟩⟩⟩⟩⟩⟩
  have hb1 : (E m.toNat).2.2 % p ≠ 0 := fun q => by have := (resS_neg (e := E m.toNat) (p := p) (by omega)).mpr q; omega
  have hb2 : (E n.toNat).2.2 % p ≠ 0 := fun q => by have := (resS_neg (e := E n.toNat) (p := p) (by omega)).mpr q; omega
  have k' := tm0.mp k
  have l' : m % ((p : Int) - 1) ≠ 0 := fun q => l (tm0.mpr q)
  have l2 : n % ((p : Int) - 1) ≠ 0 := fun q => l' ((mod_same k').mpr q)
  have e1 : resS (E m.toNat) p = resV (E m.toNat) p := by unfold resS; rw [if_neg (ndvd_of hb1)]
  have e2 : resS (E n.toNat) p = resV (E n.toNat) p := by unfold resS; rw [if_neg (ndvd_of hb2)]
  have f1 := fi_le (b := m) (p := p) h3.1
  have f2 := fi_le (b := n) (p := p) h3.1
  have v1 := resV_le (e := E m.toNat) (p := p) (by omega)
  have v2 := resV_le (e := E n.toNat) (p := p) (by omega)
  have p1 : resV (E m.toNat) p * fi m p ≤ 199 * 199 := Int.mul_le_mul (by omega) (by omega) (by omega) (by omega)
  have p2 : resV (E n.toNat) p * fi n p ≤ 199 * 199 := Int.mul_le_mul (by omega) (by omega) (by omega) (by omega)
  have p3 : 0 ≤ resV (E m.toNat) p * fi m p := Int.mul_nonneg (by omega) (by omega)
  have p4 : 0 ≤ resV (E n.toNat) p * fi n p := Int.mul_nonneg (by omega) (by omega)
  have fin : kuS E p m n = (resV (E m.toNat) p * fi m p - resV (E n.toNat) p * fi n p) % p := by
    unfold kuS
    rw [if_pos ⟨⟨d, by omega, l', fun q => o (tm0.mpr q), hb1⟩, ⟨e, by omega, l2, fun z => q (tm0.mpr z), hb2⟩, k'⟩]
    rfl
  rw [fin, e1, e2]
  exact ⟨by omega, _, tmN m0, _, _, fi_nat m0 h3.1 h3.2 w, h.1, s32, by omega, _, tmN n0, _, _, fi_nat n0 h3.1 h3.2 w, h.1, s32, _, _, C_rest (p := p) s64 (by omega) (by omega) w, h.1, rfl⟩
def kumS (E : eT) (t p m n : Int) : Int := if isPr p ∧ (0 ≤ m ∧ m ≤ 38) ∧ (0 ≤ n ∧ n ≤ 38) then (if m ≤ t ∧ n ≤ t then kuS E p.toNat m n else -2) else -1
theorem c_kummer (ok : okS c E t ws me) {p m n : Int} (hp : in32 p) (hm : in32 m) (hn : in32 n) : cAns E t ws me E t ws me 103 [.int (jI p), .int (jI m), .int (jI n)] (.int (jI (kumS E t p m n))) := by
  intro w h
  have ht1 := ok.2.1
  have ht := ok.2.2.1
  refine ⟨w, Z_103 h.1 ⟨_, _, _, C_isPrime hp h.1.noP, h.1, fun d => by unfold kumS; rw [if_neg (fun z => d z.1)], fun d => ⟨_, _, _, C_isEntry hm w, h.1, fun e => by unfold kumS; rw [if_neg (fun z => e z.2.1)], fun e => ⟨_, _, _, C_isEntry hn w, h.1, fun f => ⟨_, h.top, hm, s32, fun g => by unfold kumS; rw [if_pos ⟨d, e, f⟩, if_neg (by omega)], fun g => ⟨hn, fun k => ?_, fun k => by unfold kumS; rw [if_pos ⟨d, e, f⟩, if_neg (by omega)]⟩⟩, fun f => by unfold kumS; rw [if_neg (fun z => f z.2.2)]⟩⟩⟩, h, xsame.rf⟩
  unfold kumS
  rw [if_pos ⟨d, e, f⟩, if_pos ⟨g, k⟩]
  obtain ⟨q, hq, rfl, h1, h2⟩ := isPr_nat d
  exact ⟨_, _, C_kummerOf h ok hq e.1 g f.1 k, h.1, rfl⟩
theorem m_kummer (ok : okS c E t ws me) {p m n : Int} (hp : in32 p) (hm : in32 m) (hn : in32 n) : mAns E t ws me E t ws me 237 [.int (jI p), .int (jI m), .int (jI n)] (.int (jI (kumS E t p m n))) := by
  intro w h0
  have h := h0.p0 (v := jI 0)
  have ht1 := ok.2.1
  have ht := ok.2.2.1
  refine ⟨_, Z_237 h0.1 (fun w2 e _ => ?_), h, sm_pF (by decide)⟩
  subst e
  refine ⟨_, _, _, C_misPrime h hp, h.1, fun d => by unfold kumS; rw [if_neg (fun z => d z.1)], fun d => ⟨_, _, _, C_misEntry hm _, h.1, fun e => by unfold kumS; rw [if_neg (fun z => e z.2.1)], fun e => ⟨_, _, _, C_misEntry hn _, h.1, fun f => ⟨_, h.top, hm, s32, fun g => by unfold kumS; rw [if_pos ⟨d, e, f⟩, if_neg (by omega)], fun g => ⟨hn, fun k => ?_, fun k => by unfold kumS; rw [if_pos ⟨d, e, f⟩, if_neg (by omega)]⟩⟩, fun f => by unfold kumS; rw [if_neg (fun z => f z.2.2)]⟩⟩⟩
  unfold kumS
  rw [if_pos ⟨d, e, f⟩, if_pos ⟨g, k⟩]
  obtain ⟨q, hq, rfl, h1, h2⟩ := isPr_nat d
  exact ⟨_, _, C_mkummerOf h ok hq e.1 g f.1 k, h.1, rfl⟩
end KU
