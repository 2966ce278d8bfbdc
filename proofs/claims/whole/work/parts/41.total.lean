/-! SUMS OF ENTRIES: a total of so many parts of U -/
def uA : Int := 7420738134810
theorem dm_u {T W U P : Int} (e : T = W * U + P) (h0 : 0 ≤ P) (h1 : P < U) : T / U = W ∧ T % U = P := by
  have hU : 0 < U := by omega
  refine ⟨?_, ?_⟩
  · rw [e, Int.add_comm, Int.add_mul_ediv_right _ _ (by omega), Int.ediv_eq_zero_of_lt h0 h1]
    omega
  · rw [e, Int.add_comm, Int.add_mul_emod_self_right, Int.emod_eq_of_lt h0 h1]
theorem dm_e (T U : Int) : T = T / U * U + T % U := by
  have := Int.mul_ediv_add_emod T U
  rw [Int.mul_comm] at this
  omega
/-- U times an entry -/
def tv (U : Int) (e : Int × Int × Int) : Int := e.1 * U + e.2.1 * (U / e.2.2)
def tot (w : xW) (U T : Int) : Prop := fJ w 3 2 0 U ∧ fJ w 3 2 1 (T / U) ∧ fJ w 3 2 2 (T % U)
theorem C_begin {w : xW} (hC : CS w) {z : Int} (hz : 1 ≤ z) (z64 : in64 z) : ∃ w', xCall 37 [.ref 3, .long (jL z)] w (none, w') ∧ CS w' ∧ xsame [3] w w' ∧ tot w' z 0 := by
  have m := C_maxL (a := z) (b := 1) z64 s64 w
  rw [if_neg (by omega)] at m
  have C1 : CS (pF w 3 0 (.long (jL z))) := ks_3_0 hC
  have C2 : CS (pF (pF w 3 0 (.long (jL z))) 3 1 (.long (jL 0))) := ks_3_1 C1
  have C3 : CS (pF (pF (pF w 3 0 (.long (jL z))) 3 1 (.long (jL 0))) 3 2 (.long (jL 0))) := ks_3_2 C2
  refine ⟨_, Z_37 hC ⟨_, _, m, hC, fun w6 e6 _ w9 e9 _ w12 e12 _ => by rw [e12, e9, e6]⟩, C3, ((sm_pF (by decide)).trans (sm_pF (by decide))).trans (sm_pF (by decide)), ?_, ?_, ?_⟩
  · exact ((kf_3_0 hC).putJ.put (by decide)).put (by decide)
  · rw [Int.zero_ediv]
    exact (kf_3_1 C1).putJ.put (by decide)
  · rw [Int.zero_emod]
    exact (kf_3_2 C2).putJ
theorem C_add {w : xW} (hC : CS w) {U T f x a b : Int} (ht : tot w U T) (hU : 0 < U) (hU2 : U ≤ 1000000000000000) (hb : 0 < b) (hd : b ∣ U) (hfa : in64 (f * a)) : ∃ w', xCall 41 [.ref 3, .long (jL f), .long (jL x), .long (jL a), .long (jL b)] w (none, w') ∧ CS w' ∧ xsame [3] w w' ∧ tot w' U (T + f * (x * U + a * (U / b))) := by
  obtain ⟨t0, t1, t2⟩ := ht
  have hbU : b ≤ U := Int.le_of_dvd hU hd
  have b64 : in64 b := s64
  have eU : U / b * b = U := Int.ediv_mul_cancel hd
  have u0 : 0 ≤ U / b := Int.ediv_nonneg (by omega) (by omega)
  have r0 := Int.emod_nonneg (f * a) (show b ≠ 0 by omega)
  have r1 := Int.emod_lt_of_pos (f * a) hb
  have p0 := Int.emod_nonneg T (show U ≠ 0 by omega)
  have p1 := Int.emod_lt_of_pos T hU
  have q1 : f * a % b * (U / b) ≤ (b - 1) * (U / b) := Int.mul_le_mul_of_nonneg_right (by omega) u0
  have q0 : 0 ≤ f * a % b * (U / b) := Int.mul_nonneg r0 u0
  have q2 : (b - 1) * (U / b) = U - U / b := by rw [Int.sub_mul, Int.one_mul, Int.mul_comm b, eU]
  have eT : T + f * (x * U + a * (U / b)) = (T / U + (f * x + f * a / b)) * U + (T % U + f * a % b * (U / b)) := by
    have e1 := dm_e T U
    have e2 := dm_e (f * a) b
    have e3 : f * a * (U / b) = f * a / b * U + f * a % b * (U / b) := by
      have : (f * a / b * b + f * a % b) * (U / b) = f * a / b * U + f * a % b * (U / b) := by
        rw [Int.add_mul, Int.mul_assoc, Int.mul_comm b, eU]
      rw [← this, ← e2]
    rw [Int.mul_add, ← Int.mul_assoc, ← Int.mul_assoc, e3, Int.add_mul, Int.add_mul]
    omega
  have s1 : xsame [3] w (pF w 3 1 (.long (jL (T / U + (f * x + f * a / b))))) := sm_pF (by decide)
  have C1 : CS (pF w 3 1 (.long (jL (T / U + (f * x + f * a / b))))) := ks_3_1 hC
  have a0 : fJ (pF w 3 1 (.long (jL (T / U + (f * x + f * a / b))))) 3 2 0 U := t0.put (by decide)
  have a1 : fJ (pF w 3 1 (.long (jL (T / U + (f * x + f * a / b))))) 3 2 1 (T / U + (f * x + f * a / b)) := (kf_3_1 hC).putJ
  have a2 : fJ (pF w 3 1 (.long (jL (T / U + (f * x + f * a / b))))) 3 2 2 (T % U) := t2.put (by decide)
  revert s1 C1 a0 a1 a2
  generalize hw1 : pF w 3 1 (.long (jL (T / U + (f * x + f * a / b)))) = w1
  intro s1 C1 a0 a1 a2
  have s2 : xsame [3] w1 (pF w1 3 2 (.long (jL (T % U + f * a % b * (U / b))))) := sm_pF (by decide)
  have C2 : CS (pF w1 3 2 (.long (jL (T % U + f * a % b * (U / b))))) := ks_3_2 C1
  have b0 : fJ (pF w1 3 2 (.long (jL (T % U + f * a % b * (U / b))))) 3 2 0 U := a0.put (by decide)
  have b1 : fJ (pF w1 3 2 (.long (jL (T % U + f * a % b * (U / b))))) 3 2 1 (T / U + (f * x + f * a / b)) := a1.put (by decide)
  have b2 : fJ (pF w1 3 2 (.long (jL (T % U + f * a % b * (U / b))))) 3 2 2 (T % U + f * a % b * (U / b)) := (kf_3_2 C1).putJ
  revert s2 C2 b0 b1 b2
  generalize hw2 : pF w1 3 2 (.long (jL (T % U + f * a % b * (U / b)))) = w2
  intro s2 C2 b0 b1 b2
  by_cases hc : T % U + f * a % b * (U / b) < U
  · obtain ⟨d1, d2⟩ := dm_u eT (by omega) hc
    refine ⟨w2, Z_41 hC ⟨b64, fun _ => ⟨_, t1, _, _, C_floorDiv hfa b64 hb w, hC, fun w9 e9 _ => ?_⟩, fun q => by omega⟩, C2, s1.trans s2, b0, by rw [d1]; exact b1, by rw [d2]; exact b2⟩
    rw [e9, hw1]
    refine ⟨_, a2, _, _, C_floorMod hfa b64 hb w1, C1, _, a0, s64, by omega, _, tdN (by omega), fun w24 e24 _ => ?_⟩
    rw [e24, hw2]
    exact ⟨_, b2, _, b0, s64, s64, fun _ => rfl, fun q => by omega⟩
  · have eT2 : T + f * (x * U + a * (U / b)) = (T / U + (f * x + f * a / b) + 1) * U + (T % U + f * a % b * (U / b) - U) := by
      rw [Int.add_mul _ 1, Int.one_mul]
      omega
    obtain ⟨d1, d2⟩ := dm_u eT2 (by omega) (by omega)
    have C3 : CS (pF w2 3 2 (.long (jL (T % U + f * a % b * (U / b) - U)))) := ks_3_2 C2
    have s3 : xsame [3] w2 (pF w2 3 2 (.long (jL (T % U + f * a % b * (U / b) - U)))) := sm_pF (by decide)
    have C4 : CS (pF (pF w2 3 2 (.long (jL (T % U + f * a % b * (U / b) - U)))) 3 1 (.long (jL (T / U + (f * x + f * a / b) + 1)))) := ks_3_1 C3
    refine ⟨_, Z_41 hC ⟨b64, fun _ => ⟨_, t1, _, _, C_floorDiv hfa b64 hb w, hC, fun w9 e9 _ => ?_⟩, fun q => by omega⟩, C4, (s1.trans s2).trans (s3.trans (sm_pF (by decide))), ?_, ?_, ?_⟩
    · rw [e9, hw1]
      refine ⟨_, a2, _, _, C_floorMod hfa b64 hb w1, C1, _, a0, s64, by omega, _, tdN (by omega), fun w24 e24 _ => ?_⟩
      rw [e24, hw2]
      refine ⟨_, b2, _, b0, s64, s64, fun q => absurd q hc, fun _ w33 e33 _ => ?_⟩
      rw [e33]
      refine ⟨_, b1.put (by decide), fun w38 e38 _ => ?_⟩
      rw [e38]
    · exact (b0.put (by decide)).put (by decide)
    · rw [d1]
      exact (kf_3_1 C3).putJ
    · rw [d2]
      exact (kf_3_2 C2).putJ.put (by decide)
theorem C_tell {w : xW} (hC : CS w) {U T : Int} (ht : tot w U T) (hU : 0 < U) (hU2 : U ≤ 1000000000000000) : xCall 42 [.ref 3, .ref 36] w (none, w.set 36 (frac (T / U) (nfA (T % U) U) (nfB (T % U) U))) := by
  obtain ⟨x, y, z, hf⟩ := hC.fr36
  have p0 := Int.emod_nonneg T (show U ≠ 0 by omega)
  have p1 := Int.emod_lt_of_pos T hU
  have k := C_become hf (nw := T / U) (na := T % U) hU s64 s64
  have e : nfW (T / U) (T % U) U = T / U := by
    unfold nfW
    rw [Int.ediv_eq_zero_of_lt p0 p1]
    omega
  rw [e] at k
  exact Z_42 hC ⟨_, ht.2.1, _, ht.2.2, _, ht.1, ko_36 hC, _, k, (fw hC _ _ _).1, rfl⟩
theorem cb_le : ∀ n k, cb n k ≤ 2 ^ n
  | 0, 0 => Nat.le_refl _
  | _ + 1, 0 => Nat.one_le_two_pow
  | 0, _ + 1 => Nat.zero_le _
  | n + 1, k + 1 => by
    have h1 := cb_le n k
    have h2 := cb_le n (k + 1)
    show cb n k + cb n (k + 1) ≤ _
    rw [Nat.pow_succ]
    omega
theorem cb_41 {n k : Nat} (hn : n ≤ 41) : cb n k ≤ 2199023255552 := by
  have h := cb_le n k
  have h2 : 2 ^ n ≤ 2 ^ 41 := Nat.pow_le_pow_right (by decide) hn
  have h3 : 2 ^ 41 = 2199023255552 := by decide
  omega
/-- so many of the first entries, each as often as it is chosen, together, U times -/
def sT (E : eT) (N : Nat) : Nat → Int
  | 0 => 0
  | k + 1 => sT E N k + cb N k * tv uA (E k)
theorem rB_dvd : ∀ k : Nat, k < 39 → rB k ∣ uA := by decide +kernel
section SU
variable {c : Nat} {E : eT} {t : Int} {ws : Nat → Int} {me : memT} {w : xW}
theorem cst.s3 (h : cst E t ws me w) {w' : xW} (hs : xsame [3] w w') (hC : CS w') : cst E t ws me w' := h.same hs (by decide) hC
theorem C_of (h : cst E t ws me w) {n k : Int} (h0 : 0 ≤ n) (h1 : n < 42) (h2 : 0 ≤ k) (h3 : k < 42) : xCall 39 [.ref 1, .int (jI n), .int (jI k)] w (some (.long (jL (cb n.toNat k.toNat))), w) := by
  have q := h.cb (n := n.toNat) (k := k.toNat) (by omega) (by omega)
  refine Z_39 h.1 ⟨s32, fun z => by omega, fun _ => ⟨fun z => by omega, fun _ => ⟨s32, fun z => by omega, fun _ => ⟨fun z => by omega, fun _ => ⟨by omega, _, ?_, rfl⟩⟩⟩⟩⟩
  rw [show (n * 42 + k).toNat = n.toNat * 42 + k.toNat by omega]
  exact q
theorem ok_d (ok : okS c E t ws me) {n : Int} (h0 : 0 ≤ n) (hn : n ≤ t) : (E n.toNat).2.2 ∣ uA := by
  have ht := ok.2.2.1
  exact Int.dvd_trans (ok.2.2.2.1 n.toNat (by omega)).2.2.1 (rB_dvd n.toNat (by omega))
theorem C_addEntry (h : cst E t ws me w) (ok : okS c E t ws me) {T f k : Int} (ht : tot w uA T) (f0 : 0 ≤ f) (f1 : f ≤ 2199023255552) (h0 : 0 ≤ k) (hk : k ≤ t) : ∃ w', xCall 40 [.ref 23, .long (jL f), .int (jI k)] w (none, w') ∧ cst E t ws me w' ∧ xsame [3] w w' ∧ tot w' uA (T + f * tv uA (E k.toNat)) := by
  have ht2 := ok.2.2.1
  have b := ok_e ok h0 hk
  have a := ok.2.2.2.1 k.toNat (by omega)
  have a0 := a.1
  have a1 := a.2.1
  have fa : f * (E k.toNat).2.1 ≤ 2199023255552 * 1919190 := Int.mul_le_mul f1 (by omega) a0 (by omega)
  have fa0 : 0 ≤ f * (E k.toNat).2.1 := Int.mul_nonneg f0 a0
  obtain ⟨w', k1, k2, k3, k4⟩ := C_add h.1 (x := (E k.toNat).1) (f := f) (a := (E k.toNat).2.1) ht (by decide) (by decide) b.2.2.2.1 (ok_d ok h0 hk) s64
  exact ⟨w', Z_40 h.1 ⟨_, _, N_whole h ht2 h0 hk, h.1, _, _, N_above h ht2 h0 hk, h.1, _, _, N_below h ht2 h0 hk, h.1, _, k1, k2, rfl⟩, h.s3 k3 k2, k3, k4⟩
theorem L_addUp (ok : okS c E t ws me) {n last : Int} (n0 : 0 ≤ n) (n1 : n ≤ 38) (hl : last ≤ t) : ∀ (k i : Nat) (w : xW), (i : Int) + k = last + 1 → cst E t ws me w → tot w uA (sT E (n + 1).toNat i) →
    ∃ w', xGo 36 12 [some (.ref 23), some (.int (jI n)), some (.int (jI last)), some (.int (jI (i : Int)))] [] w (none, w') ∧ cst E t ws me w' ∧ xsame [3] w w' ∧ tot w' uA (sT E (n + 1).toNat (last + 1).toNat) := by
  have ht := ok.2.2.1
  intro k
  induction k with
  | zero =>
    intro i w hi h hT
    rw [show (last + 1).toNat = i by omega]
    exact ⟨w, Z_36_12 h.1 ⟨s32, s32, fun _ => rfl, fun q => by omega⟩, h, xsame.rf, hT⟩
  | succ k ih =>
    intro i w hi h hT
    have cbb := cb_41 (n := (n + 1).toNat) (k := i) (by omega)
    obtain ⟨w1, a1, a2, a3, a4⟩ := C_addEntry h ok (f := ((cb (n + 1).toNat i : Nat) : Int)) (k := (i : Int)) hT (by omega) (by omega) (by omega) (by omega)
    obtain ⟨w2, b1, b2, b3, b4⟩ := ih (i + 1) w1 (by omega) a2 a4
    have o := C_of h (n := n + 1) (k := (i : Int)) (by omega) (by omega) (by omega) (by omega)
    rw [Int.toNat_natCast] at o
    exact ⟨w2, Z_36_12 h.1 ⟨s32, s32, fun q => by omega, fun _ => ⟨_, _, o, h.1, _, a1, a2.1, b1⟩⟩, b2, a3.trans b3, b4⟩
theorem C_addUp (h : cst E t ws me w) (ok : okS c E t ws me) {n last : Int} (n0 : 0 ≤ n) (n1 : n ≤ 38) (l0 : -1 ≤ last) (hl : last ≤ t) : ∃ w', xCall 36 [.ref 23, .int (jI n), .int (jI last)] w (none, w') ∧ cst E t ws me w' ∧ xsame [3] w w' ∧ tot w' uA (sT E (n + 1).toNat (last + 1).toNat) := by
  obtain ⟨w1, a1, a2, a3, a4⟩ := C_begin h.1 (z := 7420738134810) (by decide) s64
  obtain ⟨w2, b1, b2, b3, b4⟩ := L_addUp ok n0 n1 hl (last + 1).toNat 0 w1 (by omega) (h.s3 a3 a2) a4
  exact ⟨w2, Z_36 h.1 ⟨_, a1, a2, b1⟩, b2, a3.trans b3, b4⟩
/-! the model's -/
theorem mst.s39 (h : mst E t ws me w) (ht : t ≤ 38) (hl : me.length ≤ 20) {w' : xW} (hs : xsame [39] w w') (hC : CS w') (h1 : fI w' 39 12 4 t) (h2 : fI w' 39 12 7 46) (hz : fI w' 39 12 13 me.length) : mst E t ws me w' := by
  refine h.mem ht (hs.mono (by decide)) hC h1 h2 hz (fun k q hq => ?_)
  obtain ⟨a, b, c⟩ := h.mm hl hq
  exact ⟨a.sm hs (by decide), b.sm hs (by decide), c.sm hs (by decide)⟩
end SU
theorem C_downBy {a b : Int} (ha : in64 a) (hb : in64 b) (h0 : 0 < b) (w : xW) (hC : CS w) : xCall 193 [.long (jL a), .long (jL b)] w (some (.long (jL (a / b))), w) := by
  obtain ⟨ht, ht2⟩ := x_tdiv_le h0 hb ha
  have e := Int.tdiv_eq_ediv (a := a) (b := b)
  have hs : b.sign = 1 := Int.sign_eq_one_of_pos h0
  have de := dm_e a b
  have m0 := Int.emod_nonneg a (show b ≠ 0 by omega)
  have m1 := Int.emod_lt_of_pos a h0
  refine Z_193 hC ⟨ha, hb, by omega, _, rfl, ht2, fun d => ?_, fun d => ?_⟩
  · rw [e] at d ⊢
    split at d
    · rename_i hc
      rw [if_pos hc, Int.add_zero]
    · rename_i hc
      exfalso
      rw [hs, Int.add_mul, Int.one_mul] at d
      have : ¬ a % b = 0 := fun q => hc (Or.inr (Int.dvd_of_emod_eq_zero q))
      omega
  · rw [e] at d ⊢
    split at d
    · rename_i hc
      rw [Int.add_zero] at d
      omega
    · rename_i hc
      rw [if_neg hc, hs]
      congr 4
      omega
/-- one entry of a row of the model -/
theorem C_addsOne {w : xW} (hC : CS w) {a1 : Nat} (ha : a1 ≠ 39) {A B f k x a b : Int} (hA : fJ w 39 12 8 A) (hB : fJ w 39 12 9 B) (k0 : 0 ≤ k) (r0 : rL w a1 (3 * k).toNat x) (r1 : rL w a1 (3 * k + 1).toNat a) (r2 : rL w a1 (3 * k + 2).toNat b) (f0 : 0 ≤ f) (f1 : f ≤ 2199023255552) (a0 : 0 ≤ a) (a2 : a < b) (b1 : b ≤ 1919190) :
    xCall 191 [.ref 39, .ref a1, .long (jL f), .int (jI k)] w (none, pF (pF w 39 8 (.long (jL (A + (f * x + f * a / b))))) 39 9 (.long (jL (B + f * a % b * (uA / b))))) := by
  have fa : f * a ≤ 2199023255552 * 1919190 := Int.mul_le_mul f1 (by omega) a0 (by omega)
  have fa0 : 0 ≤ f * a := Int.mul_nonneg f0 a0
  have s1 : xsame [39] w (pF w 39 8 (.long (jL (A + (f * x + f * a / b))))) := sm_pF (by decide)
  have ha' : a1 ∉ [39] := by simpa using ha
  refine Z_191 hC ⟨by omega, _, r1, _, hA, by omega, _, r0, by omega, _, r2, s64, s64, by omega, _, tdN fa0, fun w18 e18 _ => ?_⟩
  subst e18
  refine ⟨_, hB.put (by decide), by omega, _, r2.sm s1 ha', s64, by omega, _, tmN fa0, by omega, _, r2.sm s1 ha', s64, by omega, _, tdN (by decide), fun w37 e37 _ => ?_⟩
  rw [e37]
  rfl
/-- what a row of the model has together -/
theorem L_addsUp {a1 : Nat} (ha : a1 ≠ 39) {E : eT} {N last : Int} (N0 : 0 ≤ N) (N1 : N ≤ 41) (hl : last ≤ 38) {w0 : xW} (hrow : ∀ k : Nat, (k : Int) ≤ last → rL w0 a1 (3 * k) (E k).1 ∧ rL w0 a1 (3 * k + 1) (E k).2.1 ∧ rL w0 a1 (3 * k + 2) (E k).2.2) (hE : ∀ k : Nat, (k : Int) ≤ last → 0 ≤ (E k).2.1 ∧ (E k).2.1 < (E k).2.2 ∧ (E k).2.2 ≤ 1919190 ∧ (E k).2.2 ∣ uA) (hcb : ∀ k : Nat, (k : Int) ≤ last → rL w0 43 (40 * N.toNat + k) (cb N.toNat k)) :
    ∀ (k i : Nat) (w : xW) (A B : Int), (i : Int) + k = last + 1 → CS w → xsame [39] w0 w → (∀ j z, j ≠ 8 → j ≠ 9 → fI w0 39 12 j z → fI w 39 12 j z) → fJ w 39 12 8 A → fJ w 39 12 9 B → A * uA + B = sT E N.toNat i → 0 ≤ B → B ≤ i * uA →
    ∃ w', xGo 190 13 [some (.ref 39), some (.ref a1), some (.int (jI N)), some (.int (jI last)), some (.int (jI (i : Int)))] [] w (none, w') ∧ CS w' ∧ xsame [39] w0 w' ∧ (∀ j z, j ≠ 8 → j ≠ 9 → fI w0 39 12 j z → fI w' 39 12 j z) ∧ fJ w' 39 12 8 (sT E N.toNat (last + 1).toNat / uA) ∧ fJ w' 39 12 9 (sT E N.toNat (last + 1).toNat % uA) := by
  intro k
  induction k with
  | zero =>
    intro i w A B hi hC hs hF hA hB hT B0 B1
    have ei : (last + 1).toNat = i := by omega
    have hu : uA = 7420738134810 := rfl
    have Bu : B ≤ 39 * uA := by
      have : (i : Int) * uA ≤ 39 * uA := Int.mul_le_mul_of_nonneg_right (by omega) (by decide)
      omega
    rw [hu] at Bu
    have m0 := Int.emod_nonneg B (show uA ≠ 0 by decide)
    have m1 := Int.emod_lt_of_pos B (show 0 < uA by decide)
    have eT : sT E N.toNat i = (A + B / uA) * uA + B % uA := by
      have := dm_e B uA
      rw [Int.add_mul]
      omega
    obtain ⟨d1, d2⟩ := dm_u eT m0 m1
    rw [ei, d1, d2]
    have C1 : CS (pF w 39 8 (.long (jL (A + B / uA)))) := ks_39_8 hC
    refine ⟨pF (pF w 39 8 (.long (jL (A + B / uA)))) 39 9 (.long (jL (B % uA))), Z_190_13 hC ⟨s32, s32, fun _ => ⟨_, hA, _, hB, s64, B / uA, tdN B0, fun w11 e11 _ => ?_⟩, fun q => by omega⟩, ks_39_9 C1, hs.trans ((sm_pF (by decide)).trans (sm_pF (by decide))), fun j z j8 j9 hz => ((hF j z j8 j9 hz).put (by omega)).put (by omega), (kf_39_8 hC).putJ.put (by decide), (kf_39_9 C1).putJ⟩
    subst e11
    refine ⟨_, hB.put (by decide), s64, B % uA, tmN B0, fun w19 e19 _ => ?_⟩
    rw [e19]
  | succ k ih =>
    intro i w A B hi hC hs hF hA hB hT B0 B1
    have hE2 := hE i (by omega)
    have hr := hrow i (by omega)
    have hc := hcb i (by omega)
    have ha' : a1 ∉ [39] := by simpa using ha
    have cbb := cb_41 (n := N.toNat) (k := i) (by omega)
    have one := C_addsOne hC ha (f := ((cb N.toNat i : Nat) : Int)) (k := (i : Int)) hA hB (by omega) (by rw [show (3 * (i : Int)).toNat = 3 * i by omega]; exact hr.1.sm hs ha') (by rw [show (3 * (i : Int) + 1).toNat = 3 * i + 1 by omega]; exact hr.2.1.sm hs ha') (by rw [show (3 * (i : Int) + 2).toNat = 3 * i + 2 by omega]; exact hr.2.2.sm hs ha') (by omega) (by omega) hE2.1 hE2.2.1 hE2.2.2.1
    have b0 : 0 < (E i).2.2 := by omega
    have eU : uA / (E i).2.2 * (E i).2.2 = uA := Int.ediv_mul_cancel hE2.2.2.2
    have u0 : 0 ≤ uA / (E i).2.2 := Int.ediv_nonneg (by decide) (by omega)
    have r0 := Int.emod_nonneg (((cb N.toNat i : Nat) : Int) * (E i).2.1) (show (E i).2.2 ≠ 0 by omega)
    have r1 := Int.emod_lt_of_pos (((cb N.toNat i : Nat) : Int) * (E i).2.1) b0
    have q1 : ((cb N.toNat i : Nat) : Int) * (E i).2.1 % (E i).2.2 * (uA / (E i).2.2) ≤ (E i).2.2 * (uA / (E i).2.2) := Int.mul_le_mul_of_nonneg_right (by omega) u0
    have q0 : 0 ≤ ((cb N.toNat i : Nat) : Int) * (E i).2.1 % (E i).2.2 * (uA / (E i).2.2) := Int.mul_nonneg r0 u0
    have q2 : (E i).2.2 * (uA / (E i).2.2) = uA := by rw [Int.mul_comm]; exact eU
    have C1 : CS (pF w 39 8 (.long (jL (A + (((cb N.toNat i : Nat) : Int) * (E i).1 + ((cb N.toNat i : Nat) : Int) * (E i).2.1 / (E i).2.2))))) := ks_39_8 hC
    have C2 : CS (pF (pF w 39 8 (.long (jL (A + (((cb N.toNat i : Nat) : Int) * (E i).1 + ((cb N.toNat i : Nat) : Int) * (E i).2.1 / (E i).2.2))))) 39 9 (.long (jL (B + ((cb N.toNat i : Nat) : Int) * (E i).2.1 % (E i).2.2 * (uA / (E i).2.2))))) := ks_39_9 C1
    obtain ⟨w2, g1, g2, g3, g4, g5, g6⟩ := ih (i + 1) _ _ _ (by omega) C2 (hs.trans ((sm_pF (by decide)).trans (sm_pF (by decide)))) (fun j z j8 j9 hz => ((hF j z j8 j9 hz).put (by omega)).put (by omega)) ((kf_39_8 hC).putJ.put (by decide)) ((kf_39_9 C1).putJ) (by
      show _ = sT E N.toNat i + ((cb N.toNat i : Nat) : Int) * tv uA (E i)
      rw [← hT]
      unfold tv
      have e3 : ((cb N.toNat i : Nat) : Int) * (E i).2.1 * (uA / (E i).2.2) = ((cb N.toNat i : Nat) : Int) * (E i).2.1 / (E i).2.2 * uA + ((cb N.toNat i : Nat) : Int) * (E i).2.1 % (E i).2.2 * (uA / (E i).2.2) := by
        have e2 := dm_e (((cb N.toNat i : Nat) : Int) * (E i).2.1) (E i).2.2
        have : (((cb N.toNat i : Nat) : Int) * (E i).2.1 / (E i).2.2 * (E i).2.2 + ((cb N.toNat i : Nat) : Int) * (E i).2.1 % (E i).2.2) * (uA / (E i).2.2) = ((cb N.toNat i : Nat) : Int) * (E i).2.1 / (E i).2.2 * uA + ((cb N.toNat i : Nat) : Int) * (E i).2.1 % (E i).2.2 * (uA / (E i).2.2) := by
          rw [Int.add_mul, Int.mul_assoc, q2]
        rw [← this, ← e2]
      rw [Int.mul_add, ← Int.mul_assoc, ← Int.mul_assoc, e3, Int.add_mul, Int.add_mul]
      omega) (by omega) (by
      rw [Int.natCast_add, Int.add_mul]
      omega)
    refine ⟨w2, Z_190_13 hC ⟨s32, s32, fun q => by omega, fun _ => ⟨by omega, _, by rw [show (40 * N + (i : Int)).toNat = 40 * N.toNat + i by omega]; exact hc.sm hs (by decide), _, one, C2, g1⟩⟩, g2, g3, g4, g5, g6⟩
theorem C_addsUp {a1 : Nat} (ha : a1 ≠ 39) {E : eT} {N last : Int} (N0 : 0 ≤ N) (N1 : N ≤ 41) (l0 : -1 ≤ last) (hl : last ≤ 38) {w : xW} (hC : CS w) (hrow : ∀ k : Nat, (k : Int) ≤ last → rL w a1 (3 * k) (E k).1 ∧ rL w a1 (3 * k + 1) (E k).2.1 ∧ rL w a1 (3 * k + 2) (E k).2.2) (hE : ∀ k : Nat, (k : Int) ≤ last → 0 ≤ (E k).2.1 ∧ (E k).2.1 < (E k).2.2 ∧ (E k).2.2 ≤ 1919190 ∧ (E k).2.2 ∣ uA) (hcb : ∀ k : Nat, (k : Int) ≤ last → rL w 43 (40 * N.toNat + k) (cb N.toNat k)) :
    ∃ w', xCall 190 [.ref 39, .ref a1, .int (jI N), .int (jI last)] w (none, w') ∧ CS w' ∧ xsame [39] w w' ∧ (∀ j z, j ≠ 8 → j ≠ 9 → fI w 39 12 j z → fI w' 39 12 j z) ∧ fJ w' 39 12 8 (sT E N.toNat (last + 1).toNat / uA) ∧ fJ w' 39 12 9 (sT E N.toNat (last + 1).toNat % uA) := by
  have C1 : CS (pF w 39 8 (.long (jL 0))) := ks_39_8 hC
  have C2 : CS (pF (pF w 39 8 (.long (jL 0))) 39 9 (.long (jL 0))) := ks_39_9 C1
  obtain ⟨w2, g1, g2⟩ := L_addsUp ha N0 N1 hl hrow hE hcb (last + 1).toNat 0 _ 0 0 (by omega) C2 ((sm_pF (by decide)).trans (sm_pF (by decide))) (fun j z j8 j9 hz => (hz.put (by omega)).put (by omega)) ((kf_39_8 hC).putJ.put (by decide)) ((kf_39_9 C1).putJ) (by simp [sT]) (by omega) (by omega)
  refine ⟨w2, Z_190 hC (fun w2' e2 _ w5 e5 _ => ?_), g2⟩
  rw [e5, e2]
  exact g1
