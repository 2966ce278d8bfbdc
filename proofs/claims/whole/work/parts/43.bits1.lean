/-! WHAT THE TESTS FIND (1): below, recurrence, sixth -/
/-! rows of Pascal's triangle, for checks -/
def pasr : Nat → List Nat
  | 0 => 1 :: List.replicate 41 0
  | n + 1 => List.zipWith (· + ·) (0 :: pasr n) (pasr n)
theorem pasr_get : ∀ n k, k < 42 → (pasr n)[k]? = some (cb n k)
  | 0, k, h => by
    have : ∀ k, k < 42 → (pasr 0)[k]? = some (cb 0 k) := by decide +kernel
    exact this k h
  | n + 1, k, h => by
    show (List.zipWith (· + ·) (0 :: pasr n) (pasr n))[k]? = _
    rw [List.getElem?_zipWith]
    cases k with
    | zero =>
      rw [List.getElem?_cons_zero, pasr_get n 0 h]
      show some (0 + cb n 0) = some (cb (n + 1) 0)
      cases n <;> rfl
    | succ k =>
      rw [List.getElem?_cons_succ, pasr_get n k (by omega), pasr_get n (k + 1) h]
      rfl
theorem pasr_D {n k : Nat} (h : k < 42) : (pasr n).getD k 0 = cb n k := by
  rw [List.getD_eq_getElem?_getD, pasr_get n k h]
  rfl
def sTf (row : List Nat) : Nat → Int
  | 0 => 0
  | k + 1 => sTf row k + (row.getD k 0 : Nat) * tv uA (rE k)
theorem sT_f (N : Nat) : ∀ k, k ≤ 42 → sT rE N k = sTf (pasr N) k
  | 0, _ => rfl
  | k + 1, h => by
    show sT rE N k + cb N k * tv uA (rE k) = sTf (pasr N) k + ((pasr N).getD k 0 : Nat) * tv uA (rE k)
    rw [sT_f N k (by omega), pasr_D (by omega)]
/-- the recurrence holds of the right entries -/
theorem rec_r : ∀ n : Nat, n < 39 → 1 ≤ n → sTf (pasr (n + 1)) (n + 1) = 0 := by decide +kernel
/-- every sixth, from k down -/
def s6 (E : eT) (N : Nat) : Nat → Nat → Int
  | 0, _ => 0
  | f + 1, k => cb N k * tv uA (E k) + (if 6 ≤ k then s6 E N f (k - 6) else 0)
def s6f (row : List Nat) : Nat → Nat → Int
  | 0, _ => 0
  | f + 1, k => (row.getD k 0 : Nat) * tv uA (rE k) + (if 6 ≤ k then s6f row f (k - 6) else 0)
theorem s6_f (N : Nat) : ∀ f k, k < 42 → s6 rE N f k = s6f (pasr N) f k
  | 0, _, _ => rfl
  | f + 1, k, h => by
    show cb N k * tv uA (rE k) + (if 6 ≤ k then s6 rE N f (k - 6) else 0) = ((pasr N).getD k 0 : Nat) * tv uA (rE k) + (if 6 ≤ k then s6f (pasr N) f (k - 6) else 0)
    rw [pasr_D h, s6_f N f (k - 6) (by omega)]
/-- what every sixth must come to, U times -/
def s6D (n : Nat) : Int := if n % 6 = 4 then -((n : Int) + 3) * (uA / 6) else ((n : Int) + 3) * (uA / 3)
theorem six_r : ∀ n : Nat, n < 39 → n % 2 = 0 → s6f (pasr (n + 3)) 7 n = s6D n := by decide +kernel
theorem tv_part {a b U : Int} (hU : 0 < U) (h0 : 0 ≤ a) (h1 : a < b) (hd : b ∣ U) : 0 ≤ a * (U / b) ∧ a * (U / b) < U := by
  have eU : U / b * b = U := Int.ediv_mul_cancel hd
  have u0 : 0 < U / b := by
    apply Int.lt_of_not_ge
    intro q
    have : U / b * b ≤ 0 * b := Int.mul_le_mul_of_nonneg_right q (by omega)
    omega
  have q0 : 0 ≤ a * (U / b) := Int.mul_nonneg h0 (by omega)
  have q1 : a * (U / b) ≤ (b - 1) * (U / b) := Int.mul_le_mul_of_nonneg_right (by omega) (by omega)
  rw [Int.sub_mul, Int.one_mul, Int.mul_comm b, eU] at q1
  omega
def dK : Int := 11879123626491904 * uA
theorem dv_b {T U M : Int} (hU : 0 < U) (h1 : -(M * U) ≤ T) (h2 : T ≤ M * U) : -M ≤ T / U ∧ T / U ≤ M := by
  refine ⟨?_, ?_⟩
  · rw [Int.le_ediv_iff_mul_le hU, Int.neg_mul]
    exact h1
  · exact Int.ediv_le_of_le_mul hU h2
section BI
variable {c : Nat} {E : eT} {t : Int} {ws : Nat → Int} {me : memT} {w : xW}
theorem dev1 (ok : okS c E t ws me) {k : Nat} (hk : (k : Int) ≤ t) : -(5402 * uA) ≤ tv uA (E k) - tv uA (rE k) ∧ tv uA (E k) - tv uA (rE k) ≤ 5402 * uA := by
  have ht := ok.2.2.1
  have hc := ok.1
  have a := ok.2.2.2.1 k hk
  have hd := Int.dvd_trans a.2.2.1 (rB_dvd k (by omega))
  have r := rA_le k (by omega)
  have p1 := tv_part (U := uA) (by decide) a.1 a.2.1 hd
  have p2 := tv_part (U := uA) (by decide) r.1 r.2 (rB_dvd k (by omega))
  have w1 := a.2.2.2.2.1
  have w2 := a.2.2.2.2.2
  have e : tv uA (E k) - tv uA (rE k) = ((E k).1 - rW k) * uA + ((E k).2.1 * (uA / (E k).2.2) - rA k * (uA / rB k)) := by
    unfold tv
    rw [Int.sub_mul]
    show _ + _ - (rW k * uA + rA k * (uA / rB k)) = _
    omega
  have q1 : ((E k).1 - rW k) * uA ≤ 5401 * uA := Int.mul_le_mul_of_nonneg_right (by omega) (by decide)
  have q2 : -5401 * uA ≤ ((E k).1 - rW k) * uA := Int.mul_le_mul_of_nonneg_right (by omega) (by decide)
  rw [e]
  omega
theorem dev2 (ok : okS c E t ws me) {N k : Nat} (hN : N ≤ 41) (hk : (k : Int) ≤ t) : -dK ≤ cb N k * tv uA (E k) - cb N k * tv uA (rE k) ∧ cb N k * tv uA (E k) - cb N k * tv uA (rE k) ≤ dK := by
  have d := dev1 ok hk
  have cbb := cb_41 (n := N) (k := k) hN
  rw [← Int.mul_sub]
  generalize tv uA (E k) - tv uA (rE k) = x at d
  have q1 : ((cb N k : Nat) : Int) * x ≤ ((cb N k : Nat) : Int) * (5402 * uA) := Int.mul_le_mul_of_nonneg_left d.2 (by omega)
  have q2 : ((cb N k : Nat) : Int) * -(5402 * uA) ≤ ((cb N k : Nat) : Int) * x := Int.mul_le_mul_of_nonneg_left d.1 (by omega)
  have q3 : ((cb N k : Nat) : Int) * (5402 * uA) ≤ 2199023255552 * (5402 * uA) := Int.mul_le_mul_of_nonneg_right (by omega) (by decide)
  have q4 : 2199023255552 * (5402 * uA) = dK := by decide
  rw [Int.mul_neg] at q2
  omega
theorem dev3 (ok : okS c E t ws me) {N : Nat} (hN : N ≤ 41) : ∀ k : Nat, (k : Int) ≤ t + 1 → -(k * dK) ≤ sT E N k - sT rE N k ∧ sT E N k - sT rE N k ≤ k * dK
  | 0, _ => by simp [sT]
  | k + 1, h => by
    have ih := dev3 ok hN k (by omega)
    have d := dev2 ok hN (k := k) (by omega)
    show _ ≤ sT E N k + cb N k * tv uA (E k) - (sT rE N k + cb N k * tv uA (rE k)) ∧ sT E N k + cb N k * tv uA (E k) - (sT rE N k + cb N k * tv uA (rE k)) ≤ _
    rw [Int.natCast_add, Int.add_mul]
    omega
theorem dev6 (ok : okS c E t ws me) {N : Nat} (hN : N ≤ 41) : ∀ (f k : Nat), (k : Int) ≤ t → -(f * dK) ≤ s6 E N f k - s6 rE N f k ∧ s6 E N f k - s6 rE N f k ≤ f * dK
  | 0, _, _ => by simp [s6]
  | f + 1, k, h => by
    have d := dev2 ok hN (k := k) h
    have dk : 0 ≤ dK := by decide
    have fk : 0 ≤ (f : Int) * dK := Int.mul_nonneg (by omega) dk
    show _ ≤ cb N k * tv uA (E k) + (if 6 ≤ k then s6 E N f (k - 6) else 0) - (cb N k * tv uA (rE k) + (if 6 ≤ k then s6 rE N f (k - 6) else 0)) ∧ cb N k * tv uA (E k) + (if 6 ≤ k then s6 E N f (k - 6) else 0) - (cb N k * tv uA (rE k) + (if 6 ≤ k then s6 rE N f (k - 6) else 0)) ≤ _
    rw [Int.natCast_add, Int.add_mul]
    have ih := dev6 ok hN f (k - 6) (by omega)
    split <;> omega
/-- the recurrence's sum of an entry and those below -/
def rcS (E : eT) (n : Int) : Int := sT E (n + 1).toNat (n + 1).toNat
theorem rcS_b (ok : okS c E t ws me) {n : Int} (n1 : 1 ≤ n) (hn : n ≤ t) : in64 (rcS E n / uA) := by
  have ht := ok.2.2.1
  have d := dev3 ok (N := (n + 1).toNat) (by omega) (n + 1).toNat (by omega)
  have z : sT rE (n + 1).toNat (n + 1).toNat = 0 := by
    rw [sT_f _ _ (by omega), show (n + 1).toNat = n.toNat + 1 by omega]
    exact rec_r n.toNat (by omega) (by omega)
  rw [z, Int.sub_zero] at d
  have q : (((n + 1).toNat : Nat) : Int) * dK ≤ 39 * dK := Int.mul_le_mul_of_nonneg_right (by omega) (by decide)
  have e : 39 * dK = 463285821433184256 * uA := by decide
  have b := dv_b (T := rcS E n) (U := uA) (M := 463285821433184256) (by decide) (by unfold rcS; omega) (by unfold rcS; omega)
  exact ⟨by omega, by omega⟩
theorem nothing_iff {T U : Int} (hU : 0 < U) : (T / U = 0 ∧ T % U = 0) ↔ T = 0 := by
  refine ⟨fun h => ?_, fun h => by rw [h]; exact ⟨Int.zero_ediv _, Int.zero_emod _⟩⟩
  have := dm_e T U
  rw [h.1, h.2] at this
  omega
theorem C_isNothing {w : xW} (hC : CS w) {U T : Int} (ht : tot w U T) (hU : 0 < U) (hU2 : U ≤ 1000000000000000) (hT : in64 (T / U)) : xCall 66 [.ref 3] w (some (.int (bz (T = 0))), w) := by
  have p0 := Int.emod_nonneg T (show U ≠ 0 by omega)
  have p1 := Int.emod_lt_of_pos T hU
  have q := nothing_iff (T := T) hU
  exact Z_66 hC ⟨_, ht.2.1, hT, fun d => by rw [bz_f (fun z => d (q.mpr z).1)]; rfl, fun d => ⟨_, ht.2.2, s64, fun e => by rw [bz_f (fun z => e (q.mpr z).2)]; rfl, fun e => by rw [bz_t (q.mp ⟨d, e⟩)]; rfl⟩⟩
abbrev bRec (E : eT) (n : Int) : Prop := 1 ≤ n ∧ rcS E n ≠ 0
theorem C_failsRec (h : cst E t ws me w) (ok : okS c E t ws me) {n : Int} (n0 : 0 ≤ n) (hn : n ≤ t) : ∃ w', xCall 65 [.ref 23, .int (jI n)] w (some (.int (bz (bRec E n))), w') ∧ cst E t ws me w' ∧ xsame [3] w w' := by
  have ht := ok.2.2.1
  by_cases h1 : 1 ≤ n
  · obtain ⟨w1, a1, a2, a3, a4⟩ := C_addUp h ok (n := n) (last := n) n0 (by omega) (by omega) hn
    have nt := C_isNothing a2.1 a4 (by decide) (by decide) (rcS_b ok h1 hn)
    exact ⟨w1, Z_65 h.1 ⟨s32, fun _ => ⟨_, a1, a2.1, _, _, _, nt, a2.1, fun d => by rw [bz_f (fun z => z.2 d)]; rfl, fun d => by rw [bz_t ⟨h1, d⟩]; rfl⟩, fun q => by omega⟩, a2, a3⟩
  · exact ⟨w, Z_65 h.1 ⟨s32, fun q => absurd q h1, fun _ => by rw [bz_f (fun z => h1 z.1)]; rfl⟩, h, xsame.rf⟩
theorem C_breaksSum (h : mst E t ws me w) (ok : okS c E t ws me) {n : Int} (n0 : 0 ≤ n) (hn : n ≤ t) : ∃ w', xCall 211 [.ref 39, .int (jI n)] w (some (.int (bz (bRec E n))), w') ∧ mst E t ws me w' ∧ xsame [39] w w' := by
  have ht := ok.2.2.1
  by_cases h1 : 1 ≤ n
  · obtain ⟨w1, a1, a2, a3, a4, a5⟩ := C_maddsUp h ok (N := n + 1) (last := n) (by omega) (by omega) (by omega) hn
    have p0 := Int.emod_nonneg (rcS E n) (show uA ≠ 0 by decide)
    have p1 := Int.emod_lt_of_pos (rcS E n) (show 0 < uA by decide)
    have hu : uA = 7420738134810 := rfl
    have q := nothing_iff (T := rcS E n) (U := uA) (by decide)
    refine ⟨w1, Z_211 h.1 ⟨s32, fun _ => ⟨_, a1, a2.1, _, a4, rcS_b ok h1 hn, fun d => by rw [bz_t ⟨h1, fun z => d (q.mpr z).1⟩]; rfl, fun d => ⟨_, a5, (by show in64 (rcS E n % uA); exact s64), fun e => by rw [bz_f (fun z => z.2 (q.mp ⟨d, e⟩))]; rfl, fun e => by rw [bz_t ⟨h1, fun z => e (q.mpr z).2⟩]; rfl⟩⟩, fun q => by omega⟩, a2, a3⟩
  · exact ⟨w, Z_211 h.1 ⟨s32, fun q => absurd q h1, fun _ => by rw [bz_f (fun z => h1 z.1)]; rfl⟩, h, xsame.rf⟩
/-! sixth -/
def sxS (E : eT) (n : Int) : Int := s6 E (n + 3).toNat 7 n.toNat
abbrev bSix (E : eT) (n : Int) : Prop := n % 2 = 0 ∧ sxS E n ≠ s6D n.toNat
theorem sxS_b (ok : okS c E t ws me) {n : Int} (n0 : 0 ≤ n) (n2 : n % 2 = 0) (hn : n ≤ t) : -(83153865385443328 * uA) - 50 * uA ≤ sxS E n ∧ sxS E n ≤ 83153865385443328 * uA + 50 * uA ∧ -(50 * uA) ≤ s6D n.toNat ∧ s6D n.toNat ≤ 50 * uA := by
  have ht := ok.2.2.1
  have d := dev6 ok (N := (n + 3).toNat) (by omega) 7 n.toNat (by omega)
  have z : s6 rE (n + 3).toNat 7 n.toNat = s6D n.toNat := by
    rw [s6_f _ _ _ (by omega), show (n + 3).toNat = n.toNat + 3 by omega]
    exact six_r n.toNat (by omega) (by omega)
  rw [z] at d
  have e : ((7 : Nat) : Int) * dK = 83153865385443328 * uA := by decide
  rw [e] at d
  have b : -(50 * uA) ≤ s6D n.toNat ∧ s6D n.toNat ≤ 50 * uA := by
    have : ∀ m : Nat, m < 39 → -(50 * uA) ≤ s6D m ∧ s6D m ≤ 50 * uA := by decide +kernel
    exact this n.toNat (by omega)
  unfold sxS
  omega
theorem L_sixth (ok : okS c E t ws me) {n : Int} (n0 : 0 ≤ n) (n2 : n % 2 = 0) (hn : n ≤ t) : ∀ (f : Nat) (k : Int) (w : xW) (T : Int), k < 6 * f → -6 ≤ k → k ≤ n → cst E t ws me w → tot w uA T → T + (if 0 ≤ k then s6 E (n + 3).toNat f k.toNat else 0) = sxS E n →
    ∃ w', xGo 74 20 [some (.ref 23), some (.int (jI n)), some (.int (jI k))] [] w (some (.int (bz (bSix E n))), w') ∧ cst E t ws me w' ∧ xsame [3] w w' := by
  have ht := ok.2.2.1
  have hb := sxS_b ok n0 n2 hn
  have hu : uA = 7420738134810 := rfl
  have fin : ∀ (w : xW) (k : Int), k < 0 → -6 ≤ k → cst E t ws me w → tot w uA (sxS E n) → ∃ w', xGo 74 20 [some (.ref 23), some (.int (jI n)), some (.int (jI k))] [] w (some (.int (bz (bSix E n))), w') ∧ cst E t ws me w' ∧ xsame [3] w w' := by
    intro w k k0 k1 h hT
    by_cases h4 : n % 6 = 4
    · have eD : s6D n.toNat = -(n + 3) * (uA / 6) := by
        unfold s6D
        rw [if_pos (by omega), show ((n.toNat : Nat) : Int) = n by omega]
      obtain ⟨w1, a1, a2, a3, a4⟩ := C_add h.1 hT (f := n + 3) (x := 0) (a := 1) (b := 6) (by decide) (by decide) (by decide) (by decide) s64
      have eT : sxS E n + (n + 3) * (0 * uA + 1 * (uA / 6)) = sxS E n - s6D n.toNat := by
        rw [eD, Int.zero_mul, Int.zero_add, Int.one_mul, Int.neg_mul]
        omega
      rw [eT] at a4
      have b := dv_b (T := sxS E n - s6D n.toNat) (U := uA) (M := 83153865385443528) (by decide) (by omega) (by omega)
      have nt := C_isNothing a2 a4 (by decide) (by decide) s64
      refine ⟨w1, Z_74_20 h.1 ⟨s32, fun _ => ⟨s32, _, tmN n0, s32, fun q => absurd h4 q, fun _ => ⟨s32, _, a1, a2, _, _, _, nt, a2, fun d => by rw [bz_f (fun z => z.2 (by omega))]; rfl, fun d => by rw [bz_t ⟨n2, by omega⟩]; rfl⟩⟩, fun q => by omega⟩, h.s3 a3 a2, a3⟩
    · have eD : s6D n.toNat = (n + 3) * (uA / 3) := by
        unfold s6D
        rw [if_neg (by omega), show ((n.toNat : Nat) : Int) = n by omega]
      obtain ⟨w1, a1, a2, a3, a4⟩ := C_add h.1 hT (f := -(n + 3)) (x := 0) (a := 1) (b := 3) (by decide) (by decide) (by decide) (by decide) s64
      have eT : sxS E n + -(n + 3) * (0 * uA + 1 * (uA / 3)) = sxS E n - s6D n.toNat := by
        rw [eD, Int.zero_mul, Int.zero_add, Int.one_mul, Int.neg_mul]
        omega
      rw [eT] at a4
      have b := dv_b (T := sxS E n - s6D n.toNat) (U := uA) (M := 83153865385443528) (by decide) (by omega) (by omega)
      have nt := C_isNothing a2 a4 (by decide) (by decide) s64
      refine ⟨w1, Z_74_20 h.1 ⟨s32, fun _ => ⟨s32, _, tmN n0, s32, fun _ => ⟨s32, _, a1, a2, _, _, _, nt, a2, fun d => by rw [bz_f (fun z => z.2 (by omega))]; rfl, fun d => by rw [bz_t ⟨n2, by omega⟩]; rfl⟩, fun q => absurd q h4⟩, fun q => by omega⟩, h.s3 a3 a2, a3⟩
  intro f
  induction f with
  | zero =>
    intro k w T k1 k2 k3 h hT hS
    rw [if_neg (by omega), Int.add_zero] at hS
    rw [hS] at hT
    exact fin w k (by omega) k2 h hT
  | succ f ih =>
    intro k w T k1 k2 k3 h hT hS
    by_cases k0 : 0 ≤ k
    · have cbb := cb_41 (n := (n + 3).toNat) (k := k.toNat) (by omega)
      obtain ⟨w1, a1, a2, a3, a4⟩ := C_addEntry h ok (f := ((cb (n + 3).toNat k.toNat : Nat) : Int)) (k := k) hT (by omega) (by omega) k0 (by omega)
      have eS : s6 E (n + 3).toNat (f + 1) k.toNat = cb (n + 3).toNat k.toNat * tv uA (E k.toNat) + (if 6 ≤ k.toNat then s6 E (n + 3).toNat f (k.toNat - 6) else 0) := rfl
      obtain ⟨w2, b1, b2, b3⟩ := ih (k - 6) w1 _ (by omega) (by omega) (by omega) a2 a4 (by
        rw [← hS, if_pos k0, eS]
        by_cases k6 : 6 ≤ k
        · rw [if_pos (by omega), if_pos (by omega), show (k - 6).toNat = k.toNat - 6 by omega]
          omega
        · rw [if_neg (by omega), if_neg (by omega)]
          omega)
      have o := C_of h (n := n + 3) (k := k) (by omega) (by omega) (by omega) (by omega)
      exact ⟨w2, Z_74_20 h.1 ⟨s32, fun q => by omega, fun _ => ⟨_, _, o, h.1, _, a1, a2.1, b1⟩⟩, b2, a3.trans b3⟩
    · rw [if_neg k0, Int.add_zero] at hS
      rw [hS] at hT
      exact fin w k (by omega) k2 h hT
theorem C_failsSixth (h : cst E t ws me w) (ok : okS c E t ws me) {n : Int} (n0 : 0 ≤ n) (hn : n ≤ t) : ∃ w', xCall 74 [.ref 23, .int (jI n)] w (some (.int (bz (bSix E n))), w') ∧ cst E t ws me w' ∧ xsame [3] w w' := by
  have ht := ok.2.2.1
  by_cases n2 : n % 2 = 0
  · obtain ⟨w1, a1, a2, a3, a4⟩ := C_begin h.1 (z := 7420738134810) (by decide) s64
    obtain ⟨w2, b1, b2, b3⟩ := L_sixth ok n0 n2 hn 7 n w1 0 (by omega) (by omega) (by omega) (h.s3 a3 a2) a4 (by rw [if_pos n0, Int.zero_add]; rfl)
    exact ⟨w2, Z_74 h.1 ⟨s32, _, tmN n0, s32, fun _ => ⟨_, a1, a2, b1⟩, fun q => absurd n2 q⟩, b2, a3.trans b3⟩
  · exact ⟨w, Z_74 h.1 ⟨s32, _, tmN n0, s32, fun q => absurd q n2, fun _ => by rw [bz_f (fun z => n2 z.1)]; rfl⟩, h, xsame.rf⟩
theorem six_iff {T d by' : Int} (hb : by' = 3 ∨ by' = 6) : (T / uA = d / by' ∧ T % uA = (d - d / by' * by') * (uA / by')) ↔ T = d * (uA / by') := by
  have eU : uA / by' * by' = uA := by rcases hb with rfl | rfl <;> decide
  have hp : 0 < by' := by omega
  have ed := dm_e d by'
  have m0 := Int.emod_nonneg d (show by' ≠ 0 by omega)
  have m1 := Int.emod_lt_of_pos d hp
  have key : d * (uA / by') = d / by' * uA + d % by' * (uA / by') := by
    have : (d / by' * by' + d % by') * (uA / by') = d / by' * uA + d % by' * (uA / by') := by
      rw [Int.add_mul, Int.mul_assoc, Int.mul_comm by', eU]
    rw [← this, ← ed]
  have e2 : d - d / by' * by' = d % by' := by omega
  rw [e2]
  have u0 : 0 < uA / by' := by rcases hb with rfl | rfl <;> decide
  have q0 : 0 ≤ d % by' * (uA / by') := Int.mul_nonneg m0 (by omega)
  have q1 : d % by' * (uA / by') < uA := by
    have : d % by' * (uA / by') ≤ (by' - 1) * (uA / by') := Int.mul_le_mul_of_nonneg_right (by omega) (by omega)
    rw [Int.sub_mul, Int.one_mul, Int.mul_comm by', eU] at this
    omega
  refine ⟨fun h => ?_, fun h => ?_⟩
  · rw [key, ← h.2, ← h.1]
    exact dm_e T uA
  · rw [h, key]
    have := dm_u (T := d / by' * uA + d % by' * (uA / by')) rfl q0 q1
    exact this
theorem L_msixth (ok : okS c E t ws me) {n : Int} (n0 : 0 ≤ n) (n2 : n % 2 = 0) (hn : n ≤ t) : ∀ (f : Nat) (k : Int) (w : xW) (A B : Int), k < 6 * f → -6 ≤ k → k ≤ n → mst E t ws me w → fJ w 39 12 8 A → fJ w 39 12 9 B → A * uA + B + (if 0 ≤ k then s6 E (n + 3).toNat f k.toNat else 0) = sxS E n → 0 ≤ B → B + f * uA ≤ 8 * uA →
    ∃ w', xGo 207 21 [some (.ref 39), some (.int (jI n)), some (.int (jI k)), none, none, none, none] [] w (some (.int (bz (bSix E n))), w') ∧ mst E t ws me w' ∧ xsame [39] w w' := by
  have ht := ok.2.2.1
  have hb := sxS_b ok n0 n2 hn
  have hu : uA = 7420738134810 := rfl
  have T64 : in64 (sxS E n / uA) := by
    have b := dv_b (T := sxS E n) (U := uA) (M := 83153865385443528) (by decide) (by omega) (by omega)
    exact s64
  have P0 := Int.emod_nonneg (sxS E n) (show uA ≠ 0 by decide)
  have P1 := Int.emod_lt_of_pos (sxS E n) (show 0 < uA by decide)
  have fin : ∀ (w : xW) (k A B : Int), k < 0 → -6 ≤ k → mst E t ws me w → fJ w 39 12 8 A → fJ w 39 12 9 B → A * uA + B = sxS E n → 0 ≤ B → B ≤ 8 * uA → ∃ w', xGo 207 21 [some (.ref 39), some (.int (jI n)), some (.int (jI k)), none, none, none, none] [] w (some (.int (bz (bSix E n))), w') ∧ mst E t ws me w' ∧ xsame [39] w w' := by
    intro w k A B k0 k1 h hA hB hT B0 B1
    have m0 := Int.emod_nonneg B (show uA ≠ 0 by decide)
    have m1 := Int.emod_lt_of_pos B (show 0 < uA by decide)
    have eT : sxS E n = (A + B / uA) * uA + B % uA := by
      have := dm_e B uA
      rw [Int.add_mul]
      omega
    obtain ⟨d1, d2⟩ := dm_u eT m0 m1
    have h1 : mst E t ws me (pF w 39 8 (.long (jL (A + B / uA)))) := h.pu (by decide) (ks_39_8 h.1)
    have h2 : mst E t ws me (pF (pF w 39 8 (.long (jL (A + B / uA)))) 39 9 (.long (jL (B % uA)))) := h1.pu (by decide) (ks_39_9 h1.1)
    have f8 : fJ (pF (pF w 39 8 (.long (jL (A + B / uA)))) 39 9 (.long (jL (B % uA)))) 39 12 8 (sxS E n / uA) := by
      rw [d1]; exact (kf_39_8 h.1).putJ.put (by decide)
    have f9 : fJ (pF (pF w 39 8 (.long (jL (A + B / uA)))) 39 9 (.long (jL (B % uA)))) 39 12 9 (sxS E n % uA) := by
      rw [d2]; exact (kf_39_9 h1.1).putJ
    refine ⟨_, Z_207_21 h.1 ⟨s32, fun _ => ⟨_, hA, _, hB, s64, B / uA, tdN B0, fun w10 e10 _ => ?_⟩, fun q => by omega⟩, h2, (sm_pF (by decide)).trans (sm_pF (by decide))⟩
    subst e10
    refine ⟨_, hB.put (by decide), s64, B % uA, tmN B0, fun w18 e18 _ => ?_⟩
    subst e18
    revert h2 f8 f9
    generalize pF (pF w 39 8 (.long (jL (A + B / uA)))) 39 9 (.long (jL (B % uA))) = w2
    intro h2 f8 f9
    refine ⟨s32, _, tmN n0, s32, fun h4 => ⟨s32, _, tmN n0, s32, fun _ => ⟨_, _, C_downBy (a := n + 3) (b := 3) s64 s64 (by decide) w2 h2.1, h2.1, ?_⟩, fun q => absurd q h4⟩, fun h4 => ⟨s32, _, tmN n0, s32, fun q => absurd h4 q, fun _ => ⟨_, _, C_downBy (a := -n - 3) (b := 6) s64 s64 (by decide) w2 h2.1, h2.1, ?_⟩⟩⟩
    · have eD : s6D n.toNat = (n + 3) * (uA / 3) := by
        unfold s6D
        rw [if_neg (by omega), show ((n.toNat : Nat) : Int) = n by omega]
      have q := six_iff (T := sxS E n) (d := n + 3) (by' := 3) (Or.inl rfl)
      have u3 : uA / 3 = 2473579378270 := by decide
      rw [← eD] at q
      refine ⟨_, f8, T64, s64, fun d => by rw [bz_t ⟨n2, fun z => d (q.mpr z).1⟩]; rfl, fun d => ⟨_, f9, uA / 3, tdN (by decide), s64, by rw [u3]; exact s64, fun e => by rw [bz_f (fun z => z.2 (q.mp ⟨d, e⟩))]; rfl, fun e => by rw [bz_t ⟨n2, fun z => e (q.mpr z).2⟩]; rfl⟩⟩
    · have eD : s6D n.toNat = (-n - 3) * (uA / 6) := by
        unfold s6D
        rw [if_pos (by omega), show ((n.toNat : Nat) : Int) = n by omega, show -(n + 3) = -n - 3 by omega]
      have q := six_iff (T := sxS E n) (d := -n - 3) (by' := 6) (Or.inr rfl)
      have u3 : uA / 6 = 1236789689135 := by decide
      rw [← eD] at q
      refine ⟨_, f8, T64, s64, fun d => by rw [bz_t ⟨n2, fun z => d (q.mpr z).1⟩]; rfl, fun d => ⟨_, f9, uA / 6, tdN (by decide), s64, by rw [u3]; exact s64, fun e => by rw [bz_f (fun z => z.2 (q.mp ⟨d, e⟩))]; rfl, fun e => by rw [bz_t ⟨n2, fun z => e (q.mpr z).2⟩]; rfl⟩⟩
  intro f
  induction f with
  | zero =>
    intro k w A B k1 k2 k3 h hA hB hS B0 B1
    rw [if_neg (by omega), Int.add_zero] at hS
    exact fin w k A B (by omega) k2 h hA hB hS B0 (by omega)
  | succ f ih =>
    intro k w A B k1 k2 k3 h hA hB hS B0 B1
    rw [Int.natCast_add, Int.add_mul] at B1
    have fu : 0 ≤ (f : Int) * uA := Int.mul_nonneg (by omega) (by decide)
    by_cases k0 : 0 ≤ k
    · have cbb := cb_41 (n := (n + 3).toNat) (k := k.toNat) (by omega)
      have R := M_nw h ht k0 (by omega) rfl
      have ca := h.cb (n := (n + 3).toNat) (k := k.toNat) (by omega) (by omega)
      have b := ok_e ok k0 (by omega)
      have a := ok.2.2.2.1 k.toNat (by omega)
      have one := C_addsOne h.1 (a1 := 41) (by decide) (f := ((cb (n + 3).toNat k.toNat : Nat) : Int)) (k := k) hA hB k0 R.1 R.2.1 R.2.2 (by omega) (by omega) a.1 a.2.1 b.2.2.2.2.1
      have hd := ok_d ok k0 (show k ≤ t by omega)
      have eS : s6 E (n + 3).toNat (f + 1) k.toNat = cb (n + 3).toNat k.toNat * tv uA (E k.toNat) + (if 6 ≤ k.toNat then s6 E (n + 3).toNat f (k.toNat - 6) else 0) := rfl
      have eU : uA / (E k.toNat).2.2 * (E k.toNat).2.2 = uA := Int.ediv_mul_cancel hd
      have u0 : 0 ≤ uA / (E k.toNat).2.2 := Int.ediv_nonneg (by decide) (by omega)
      have r0 := Int.emod_nonneg (((cb (n + 3).toNat k.toNat : Nat) : Int) * (E k.toNat).2.1) (show (E k.toNat).2.2 ≠ 0 by omega)
      have r1 := Int.emod_lt_of_pos (((cb (n + 3).toNat k.toNat : Nat) : Int) * (E k.toNat).2.1) b.2.2.2.1
      have q1 : ((cb (n + 3).toNat k.toNat : Nat) : Int) * (E k.toNat).2.1 % (E k.toNat).2.2 * (uA / (E k.toNat).2.2) ≤ (E k.toNat).2.2 * (uA / (E k.toNat).2.2) := Int.mul_le_mul_of_nonneg_right (by omega) u0
      have q0 : 0 ≤ ((cb (n + 3).toNat k.toNat : Nat) : Int) * (E k.toNat).2.1 % (E k.toNat).2.2 * (uA / (E k.toNat).2.2) := Int.mul_nonneg r0 u0
      have q2 : (E k.toNat).2.2 * (uA / (E k.toNat).2.2) = uA := by rw [Int.mul_comm]; exact eU
      have h1 : mst E t ws me (pF w 39 8 (.long (jL (A + (((cb (n + 3).toNat k.toNat : Nat) : Int) * (E k.toNat).1 + ((cb (n + 3).toNat k.toNat : Nat) : Int) * (E k.toNat).2.1 / (E k.toNat).2.2))))) := h.pu (by decide) (ks_39_8 h.1)
      have h2 : mst E t ws me (pF (pF w 39 8 (.long (jL (A + (((cb (n + 3).toNat k.toNat : Nat) : Int) * (E k.toNat).1 + ((cb (n + 3).toNat k.toNat : Nat) : Int) * (E k.toNat).2.1 / (E k.toNat).2.2))))) 39 9 (.long (jL (B + ((cb (n + 3).toNat k.toNat : Nat) : Int) * (E k.toNat).2.1 % (E k.toNat).2.2 * (uA / (E k.toNat).2.2))))) := h1.pu (by decide) (ks_39_9 h1.1)
      have e3 : ((cb (n + 3).toNat k.toNat : Nat) : Int) * tv uA (E k.toNat) = (((cb (n + 3).toNat k.toNat : Nat) : Int) * (E k.toNat).1 + ((cb (n + 3).toNat k.toNat : Nat) : Int) * (E k.toNat).2.1 / (E k.toNat).2.2) * uA + ((cb (n + 3).toNat k.toNat : Nat) : Int) * (E k.toNat).2.1 % (E k.toNat).2.2 * (uA / (E k.toNat).2.2) := by
        unfold tv
        have e2 := dm_e (((cb (n + 3).toNat k.toNat : Nat) : Int) * (E k.toNat).2.1) (E k.toNat).2.2
        have e4 : (((cb (n + 3).toNat k.toNat : Nat) : Int) * (E k.toNat).2.1 / (E k.toNat).2.2 * (E k.toNat).2.2 + ((cb (n + 3).toNat k.toNat : Nat) : Int) * (E k.toNat).2.1 % (E k.toNat).2.2) * (uA / (E k.toNat).2.2) = ((cb (n + 3).toNat k.toNat : Nat) : Int) * (E k.toNat).2.1 / (E k.toNat).2.2 * uA + ((cb (n + 3).toNat k.toNat : Nat) : Int) * (E k.toNat).2.1 % (E k.toNat).2.2 * (uA / (E k.toNat).2.2) := by
          rw [Int.add_mul, Int.mul_assoc, q2]
        rw [← e2] at e4
        rw [Int.mul_add, ← Int.mul_assoc, ← Int.mul_assoc, e4, Int.add_mul]
        omega
      obtain ⟨w2, b1, b2, b3⟩ := ih (k - 6) _ _ _ (by omega) (by omega) (by omega) h2 ((kf_39_8 h.1).putJ.put (by decide)) ((kf_39_9 h1.1).putJ) (by
        rw [← hS, if_pos k0, eS, e3, Int.add_mul A]
        by_cases k6 : 6 ≤ k
        · rw [if_pos (by omega), if_pos (by omega), show (k - 6).toNat = k.toNat - 6 by omega]
          omega
        · rw [if_neg (by omega), if_neg (by omega)]
          omega) (by omega) (by omega)
      exact ⟨w2, Z_207_21 h.1 ⟨s32, fun q => by omega, fun _ => ⟨by omega, _, by rw [show (40 * (n + 3) + k).toNat = 40 * (n + 3).toNat + k.toNat by omega]; exact ca, _, one, h2.1, b1⟩⟩, b2, ((sm_pF (by decide)).trans (sm_pF (by decide))).trans b3⟩
    · rw [if_neg k0, Int.add_zero] at hS
      exact fin w k A B (by omega) k2 h hA hB hS B0 (by omega)
theorem C_breaksSixth (h : mst E t ws me w) (ok : okS c E t ws me) {n : Int} (n0 : 0 ≤ n) (hn : n ≤ t) : ∃ w', xCall 207 [.ref 39, .int (jI n)] w (some (.int (bz (bSix E n))), w') ∧ mst E t ws me w' ∧ xsame [39] w w' := by
  have ht := ok.2.2.1
  by_cases n2 : n % 2 = 0
  · have h1 : mst E t ws me (pF w 39 8 (.long (jL 0))) := h.pu (by decide) (ks_39_8 h.1)
    have h2 : mst E t ws me (pF (pF w 39 8 (.long (jL 0))) 39 9 (.long (jL 0))) := h1.pu (by decide) (ks_39_9 h1.1)
    obtain ⟨w2, b1, b2, b3⟩ := L_msixth ok n0 n2 hn 7 n _ 0 0 (by omega) (by omega) (by omega) h2 ((kf_39_8 h.1).putJ.put (by decide)) ((kf_39_9 h1.1).putJ) (by rw [if_pos n0]; show 0 * uA + 0 + s6 E (n + 3).toNat 7 n.toNat = sxS E n; unfold sxS; omega) (by omega) (by decide)
    refine ⟨w2, Z_207 h.1 ⟨s32, _, tmN n0, s32, fun _ w6 e6 _ w9 e9 _ => ?_, fun q => by omega⟩, b2, ((sm_pF (by decide)).trans (sm_pF (by decide))).trans b3⟩
    rw [e9, e6]
    exact b1
  · exact ⟨w, Z_207 h.1 ⟨s32, _, tmN n0, s32, fun q => by omega, fun _ => by rw [bz_f (fun z => n2 z.1)]; rfl⟩, h, xsame.rf⟩
end BI
