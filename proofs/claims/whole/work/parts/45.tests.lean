/-! what an entry fails; the calls tests, suspects, broken -/
def bitN (P : Prop) [Decidable P] : Nat := if P then 1 else 0
theorem bitN_t {P : Prop} [Decidable P] (h : P) : bitN P = 1 := if_pos h
theorem bitN_f {P : Prop} [Decidable P] (h : ¬ P) : bitN P = 0 := if_neg h
theorem bitN_le (P : Prop) [Decidable P] : bitN P ≤ 1 := by
  by_cases h : P
  · rw [bitN_t h]; exact Nat.le_refl 1
  · rw [bitN_f h]; exact Nat.zero_le 1
theorem nd_all : ∀ a : Nat, a < 64 → ∀ b : Nat, b < 64 → jI (a : Int) &&& jI (b : Int) = jI ((a &&& b : Nat) : Int) := by decide +kernel
theorem no_all : ∀ a : Nat, a < 64 → ∀ b : Nat, b < 64 → jI (a : Int) ||| jI (b : Int) = jI ((a ||| b : Nat) : Int) := by decide +kernel
theorem bit_s : ∀ k, k < 6 → ∀ a, a < 2 ^ k → ∀ s, s < 64 → (s &&& 2 ^ k = 0 → (a + 2 ^ k) &&& s = a &&& s) ∧ (s &&& 2 ^ k ≠ 0 → (a &&& s) ||| 2 ^ k = (a + 2 ^ k) &&& s) := by decide +kernel
theorem st_0 {k a s : Nat} (hk : k < 6) (ha : a < 2 ^ k) (hs : s < 64) (h0 : s &&& 2 ^ k = 0) (P : Prop) [Decidable P] : (a + 2 ^ k * bitN P) &&& s = a &&& s := by
  by_cases h : P
  · rw [bitN_t h, Nat.mul_one]; exact (bit_s k hk a ha s hs).1 h0
  · rw [bitN_f h, Nat.mul_zero, Nat.add_zero]
theorem st_n {k a s : Nat} {P : Prop} [Decidable P] (h : ¬ P) : (a + 2 ^ k * bitN P) &&& s = a &&& s := by rw [bitN_f h, Nat.mul_zero, Nat.add_zero]
theorem p2_64 : ∀ k, k < 6 → 2 ^ k < 64 := by decide
theorem st_p {k a s : Nat} (hk : k < 6) (ha : a < 2 ^ k) (hs : s < 64) (h1 : s &&& 2 ^ k ≠ 0) {P : Prop} [Decidable P] (h : P) : jI ((a &&& s : Nat) : Int) ||| jI ((2 ^ k : Nat) : Int) = jI (((a + 2 ^ k * bitN P) &&& s : Nat) : Int) := by
  have l : a &&& s < 64 := Nat.lt_of_le_of_lt Nat.and_le_right hs
  rw [bitN_t h, Nat.mul_one, no_all _ l _ (p2_64 k hk), (bit_s k hk a ha s hs).2 h1]
theorem nd_in {a b : Nat} (h : b < 64) : in32 ((a &&& b : Nat) : Int) := s32n (Nat.le_trans Nat.and_le_right (by omega))
theorem n63 : ∀ a, a < 64 → a &&& 63 = a := by decide
section T5
variable {c : Nat} {E : eT} {t : Int} {ws : Nat → Int} {me : memT} {w : xW}
abbrev bSg (E : eT) (n : Int) : Prop := sgE (E n.toNat) ≠ dueS n
def tP1 (E : eT) (n : Int) : Nat := 0 + 2 ^ 0 * bitN (bBel E n)
def tP2 (E : eT) (n : Int) : Nat := tP1 E n + 2 ^ 1 * bitN (bSg E n)
def tP3 (E : eT) (n : Int) : Nat := tP2 E n + 2 ^ 2 * bitN (bRec E n)
def tP4 (E : eT) (n : Int) : Nat := tP3 E n + 2 ^ 3 * bitN (bKu E n)
def tP5 (E : eT) (n : Int) : Nat := tP4 E n + 2 ^ 4 * bitN (bDv E n)
def tN (E : eT) (n : Int) : Nat := tP5 E n + 2 ^ 5 * bitN (bSix E n)
theorem tP_b (E : eT) (n : Int) : tP1 E n < 2 ^ 1 ∧ tP2 E n < 2 ^ 2 ∧ tP3 E n < 2 ^ 3 ∧ tP4 E n < 2 ^ 4 ∧ tP5 E n < 2 ^ 5 ∧ tN E n < 64 := by
  have a := bitN_le (bBel E n)
  have b := bitN_le (bSg E n)
  have d := bitN_le (bRec E n)
  have e := bitN_le (bKu E n)
  have f := bitN_le (bDv E n)
  have g := bitN_le (bSix E n)
  unfold tN tP5 tP4 tP3 tP2 tP1
  omega
theorem dueS_b (n : Int) : -1 ≤ dueS n ∧ dueS n ≤ 1 := by
  unfold dueS
  split
  · omega
  · split
    · split <;> omega
    · split <;> omega
theorem F103 (h : cst E t ws me w) (ok : okS c E t ws me) {n : Int} (n0 : 0 ≤ n) (hn : n ≤ t) {s : Nat} (hs : s < 64) : ∃ w', xGo 61 103 [some (.ref 23), some (.int (jI n)), some (.int (jI (s : Int))), some (.int (jI ((tP5 E n &&& s : Nat) : Int)))] [] w (some (.int (jI ((tN E n &&& s : Nat) : Int))), w') ∧ cst E t ws me w' ∧ xsame [3] w w' := by
  have bb := (tP_b E n).2.2.2.2.1
  have e0 : ((s &&& 32 : Nat) : Int) = 0 → s &&& 32 = 0 := fun q => by omega
  have an := nd_all s hs 32 (by decide)
  by_cases s0 : s &&& 32 = 0
  · refine ⟨w, Z_61_103 h.1 ⟨_, an, nd_in (by decide), fun _ => ?_, fun q => absurd (by rw [s0]; rfl) q⟩, h, xsame.rf⟩
    have e : tN E n &&& s = tP5 E n &&& s := st_0 (k := 5) (by decide) bb hs s0 (bSix E n)
    rw [e]
  · obtain ⟨w1, a1, a2, a3⟩ := C_failsSixth h ok n0 hn
    refine ⟨w1, Z_61_103 h.1 ⟨_, an, nd_in (by decide), fun q => absurd (e0 q) s0, fun _ => ⟨_, _, _, a1, a2.1, fun q => ?_, fun q => ⟨_, st_p (k := 5) (by decide) bb hs s0 q, rfl⟩⟩⟩, a2, a3⟩
    have e : tN E n &&& s = tP5 E n &&& s := st_n (k := 5) q
    rw [e]
theorem F83 (h : cst E t ws me w) (ok : okS c E t ws me) {n : Int} (n0 : 0 ≤ n) (hn : n ≤ t) {s : Nat} (hs : s < 64) : ∃ w', xGo 61 83 [some (.ref 23), some (.int (jI n)), some (.int (jI (s : Int))), some (.int (jI ((tP4 E n &&& s : Nat) : Int)))] [] w (some (.int (jI ((tN E n &&& s : Nat) : Int))), w') ∧ cst E t ws me w' ∧ xsame [3] w w' := by
  have bb := (tP_b E n).2.2.2.1
  have e0 : ((s &&& 16 : Nat) : Int) = 0 → s &&& 16 = 0 := fun q => by omega
  have an := nd_all s hs 16 (by decide)
  by_cases s0 : s &&& 16 = 0
  · have e : tP5 E n &&& s = tP4 E n &&& s := st_0 (k := 4) (by decide) bb hs s0 (bDv E n)
    obtain ⟨w2, b1, b2, b3⟩ := F103 h ok n0 hn hs
    rw [e] at b1
    exact ⟨w2, Z_61_83 h.1 ⟨_, an, nd_in (by decide), fun _ => b1, fun q => absurd (by rw [s0]; rfl) q⟩, b2, b3⟩
  · obtain ⟨w1, a1, a2, a3⟩ : ∃ w1, xCall _ _ w (some (.int (bz (bDv E n))), w1) ∧ cst E t ws me w1 ∧ xsame [3] w w1 := ⟨w, C_failsDivisor h ok n0 hn, h, xsame.rf⟩
    obtain ⟨w2, b1, b2, b3⟩ := F103 a2 ok n0 hn hs
    refine ⟨w2, Z_61_83 h.1 ⟨_, an, nd_in (by decide), fun q => absurd (e0 q) s0, fun _ => ⟨_, _, _, a1, a2.1, fun q => ?_, fun q => ⟨_, st_p (k := 4) (by decide) bb hs s0 q, b1⟩⟩⟩, b2, a3.trans b3⟩
    have e : tP5 E n &&& s = tP4 E n &&& s := st_n (k := 4) q
    rw [e] at b1
    exact b1
theorem F63 (h : cst E t ws me w) (ok : okS c E t ws me) {n : Int} (n0 : 0 ≤ n) (hn : n ≤ t) {s : Nat} (hs : s < 64) : ∃ w', xGo 61 63 [some (.ref 23), some (.int (jI n)), some (.int (jI (s : Int))), some (.int (jI ((tP3 E n &&& s : Nat) : Int)))] [] w (some (.int (jI ((tN E n &&& s : Nat) : Int))), w') ∧ cst E t ws me w' ∧ xsame [3] w w' := by
  have bb := (tP_b E n).2.2.1
  have e0 : ((s &&& 8 : Nat) : Int) = 0 → s &&& 8 = 0 := fun q => by omega
  have an := nd_all s hs 8 (by decide)
  by_cases s0 : s &&& 8 = 0
  · have e : tP4 E n &&& s = tP3 E n &&& s := st_0 (k := 3) (by decide) bb hs s0 (bKu E n)
    obtain ⟨w2, b1, b2, b3⟩ := F83 h ok n0 hn hs
    rw [e] at b1
    exact ⟨w2, Z_61_63 h.1 ⟨_, an, nd_in (by decide), fun _ => b1, fun q => absurd (by rw [s0]; rfl) q⟩, b2, b3⟩
  · obtain ⟨w1, a1, a2, a3⟩ : ∃ w1, xCall _ _ w (some (.int (bz (bKu E n))), w1) ∧ cst E t ws me w1 ∧ xsame [3] w w1 := ⟨w, C_failsKummer h ok n0 hn, h, xsame.rf⟩
    obtain ⟨w2, b1, b2, b3⟩ := F83 a2 ok n0 hn hs
    refine ⟨w2, Z_61_63 h.1 ⟨_, an, nd_in (by decide), fun q => absurd (e0 q) s0, fun _ => ⟨_, _, _, a1, a2.1, fun q => ?_, fun q => ⟨_, st_p (k := 3) (by decide) bb hs s0 q, b1⟩⟩⟩, b2, a3.trans b3⟩
    have e : tP4 E n &&& s = tP3 E n &&& s := st_n (k := 3) q
    rw [e] at b1
    exact b1
theorem F45 (h : cst E t ws me w) (ok : okS c E t ws me) {n : Int} (n0 : 0 ≤ n) (hn : n ≤ t) {s : Nat} (hs : s < 64) : ∃ w', xGo 61 45 [some (.ref 23), some (.int (jI n)), some (.int (jI (s : Int))), some (.int (jI ((tP2 E n &&& s : Nat) : Int)))] [] w (some (.int (jI ((tN E n &&& s : Nat) : Int))), w') ∧ cst E t ws me w' ∧ xsame [3] w w' := by
  have bb := (tP_b E n).2.1
  have e0 : ((s &&& 4 : Nat) : Int) = 0 → s &&& 4 = 0 := fun q => by omega
  have an := nd_all s hs 4 (by decide)
  by_cases s0 : s &&& 4 = 0
  · have e : tP3 E n &&& s = tP2 E n &&& s := st_0 (k := 2) (by decide) bb hs s0 (bRec E n)
    obtain ⟨w2, b1, b2, b3⟩ := F63 h ok n0 hn hs
    rw [e] at b1
    exact ⟨w2, Z_61_45 h.1 ⟨_, an, nd_in (by decide), fun _ => b1, fun q => absurd (by rw [s0]; rfl) q⟩, b2, b3⟩
  · obtain ⟨w1, a1, a2, a3⟩ : ∃ w1, xCall _ _ w (some (.int (bz (bRec E n))), w1) ∧ cst E t ws me w1 ∧ xsame [3] w w1 := C_failsRec h ok n0 hn
    obtain ⟨w2, b1, b2, b3⟩ := F63 a2 ok n0 hn hs
    refine ⟨w2, Z_61_45 h.1 ⟨_, an, nd_in (by decide), fun q => absurd (e0 q) s0, fun _ => ⟨_, _, _, a1, a2.1, fun q => ?_, fun q => ⟨_, st_p (k := 2) (by decide) bb hs s0 q, b1⟩⟩⟩, b2, a3.trans b3⟩
    have e : tP3 E n &&& s = tP2 E n &&& s := st_n (k := 2) q
    rw [e] at b1
    exact b1
theorem F20 (h : cst E t ws me w) (ok : okS c E t ws me) {n : Int} (n0 : 0 ≤ n) (hn : n ≤ t) {s : Nat} (hs : s < 64) : ∃ w', xGo 61 20 [some (.ref 23), some (.int (jI n)), some (.int (jI (s : Int))), some (.int (jI ((tP1 E n &&& s : Nat) : Int)))] [] w (some (.int (jI ((tN E n &&& s : Nat) : Int))), w') ∧ cst E t ws me w' ∧ xsame [3] w w' := by
  have bb := (tP_b E n).1
  have ht := ok.2.2.1
  have e0 : ((s &&& 2 : Nat) : Int) = 0 → s &&& 2 = 0 := fun q => by omega
  have an := nd_all s hs 2 (by decide)
  have sb := sgE_b (E n.toNat)
  have db := dueS_b n
  obtain ⟨w2, b1, b2, b3⟩ := F45 h ok n0 hn hs
  by_cases s0 : s &&& 2 = 0
  · have e : tP2 E n &&& s = tP1 E n &&& s := st_0 (k := 1) (by decide) bb hs s0 (bSg E n)
    rw [e] at b1
    exact ⟨w2, Z_61_20 h.1 ⟨_, an, nd_in (by decide), fun _ => b1, fun q => absurd (by rw [s0]; rfl) q⟩, b2, b3⟩
  · refine ⟨w2, Z_61_20 h.1 ⟨_, an, nd_in (by decide), fun q => absurd (e0 q) s0, fun _ => ⟨_, _, C_signN h ok n0 hn, h.1, _, _, C_dueSign s32 n0 w, h.1, s32, s32, fun q => ?_, fun q => ⟨_, st_p (k := 1) (by decide) bb hs s0 (show bSg E n from q), b1⟩⟩⟩, b2, b3⟩
    have e : tP2 E n &&& s = tP1 E n &&& s := st_n (k := 1) (P := bSg E n) (fun z => z q)
    rw [e] at b1
    exact b1
theorem C_failed (h : cst E t ws me w) (ok : okS c E t ws me) {n : Int} (n0 : 0 ≤ n) (hn : n ≤ t) {s : Nat} (hs : s < 64) : ∃ w', xCall 61 [.ref 23, .int (jI n), .int (jI (s : Int))] w (some (.int (jI ((tN E n &&& s : Nat) : Int))), w') ∧ cst E t ws me w' ∧ xsame [3] w w' := by
  have e0 : ((s &&& 1 : Nat) : Int) = 0 → s &&& 1 = 0 := fun q => by omega
  have an := nd_all s hs 1 (by decide)
  have z0 : 0 &&& s = 0 := Nat.zero_and s
  obtain ⟨w2, b1, b2, b3⟩ := F20 h ok n0 hn hs
  by_cases s0 : s &&& 1 = 0
  · have e : tP1 E n &&& s = 0 &&& s := st_0 (k := 0) (by decide) (by decide) hs s0 (bBel E n)
    rw [e, z0] at b1
    exact ⟨w2, Z_61 h.1 ⟨_, an, nd_in (by decide), fun _ => b1, fun q => absurd (by rw [s0]; rfl) q⟩, b2, b3⟩
  · have sp := fun (q : bBel E n) => st_p (k := 0) (a := 0) (by decide) (by decide) hs s0 q
    rw [z0] at sp
    refine ⟨w2, Z_61 h.1 ⟨_, an, nd_in (by decide), fun q => absurd (e0 q) s0, fun _ => ⟨_, _, _, C_failsBelow h ok n0 hn, h.1, fun q => ?_, fun q => ⟨_, sp q, b1⟩⟩⟩, b2, b3⟩
    have e : tP1 E n &&& s = 0 &&& s := st_n (k := 0) q
    rw [e, z0] at b1
    exact b1
theorem C_testsOf (h : mst E t ws me w) (ok : okS c E t ws me) {n : Int} (n0 : 0 ≤ n) (hn : n ≤ t) : ∃ w', xCall 206 [.ref 39, .int (jI n)] w (some (.int (jI (tN E n : Int))), w') ∧ mst E t ws me w' ∧ xsame [39] w w' := by
  have ht := ok.2.2.1
  obtain ⟨w1, a1, a2, a3⟩ := C_breaksSixth h ok n0 hn
  obtain ⟨w2, b1, b2, b3⟩ := C_breaksSum a2 ok n0 hn
  have sb := sgE_b (E n.toNat)
  have db := dueS_b n
  have rb := rB_pos n.toNat (by omega)
  have eb := ok_e ok n0 hn
  have nx : ∀ s0 s1 s2 s3 : Int, s0 + s1 + s2 + s3 = ((32 * bitN (bSix E n) + bitN (bBel E n) + 2 * bitN (bSg E n) + 4 * bitN (bRec E n) : Nat) : Int) → xGo 206 70 [some (.ref 39), some (.int (jI n))] [.int (jI s3), .int (jI (s0 + s1 + s2))] w2 (some (.int (jI (tN E n : Int))), w2) := by
    intro s0 s1 s2 s3 hs
    have e : (tN E n : Int) = s0 + s1 + s2 + s3 + ((8 * bitN (bKu E n) + 16 * bitN (bDv E n) : Nat) : Int) := by
      rw [hs]; unfold tN tP5 tP4 tP3 tP2 tP1; omega
    rw [e]
    refine Z_206_70 b2.1 ⟨_, _, _, C_breaksKummer b2 ok n0 hn, b2.1, fun q => ?_, fun q => ?_⟩
    · refine Z_206_85 b2.1 ⟨_, _, _, C_breaksPrimes b2 ok n0 hn, b2.1, fun d => ?_, fun d => ?_⟩
      · rw [bitN_f q, bitN_f d, show s0 + s1 + s2 + s3 + ((8 * 0 + 16 * 0 : Nat) : Int) = s0 + s1 + s2 + s3 + 0 + 0 by omega]
      · rw [bitN_f q, bitN_t d, show s0 + s1 + s2 + s3 + ((8 * 0 + 16 * 1 : Nat) : Int) = s0 + s1 + s2 + s3 + 0 + 16 by omega]
    · refine Z_206_85 b2.1 ⟨_, _, _, C_breaksPrimes b2 ok n0 hn, b2.1, fun d => ?_, fun d => ?_⟩
      · rw [bitN_t q, bitN_f d, show s0 + s1 + s2 + s3 + ((8 * 1 + 16 * 0 : Nat) : Int) = s0 + s1 + s2 + s3 + 8 + 0 by omega]
      · rw [bitN_t q, bitN_t d, show s0 + s1 + s2 + s3 + ((8 * 1 + 16 * 1 : Nat) : Int) = s0 + s1 + s2 + s3 + 8 + 16 by omega]
  have n3 : ∀ s0 s1 s2 : Int, s0 + s1 + s2 = ((32 * bitN (bSix E n) + bitN (bBel E n) + 2 * bitN (bSg E n) : Nat) : Int) → xGo 206 56 [some (.ref 39), some (.int (jI n))] [.int (jI s2), .int (jI (s0 + s1))] w1 (some (.int (jI (tN E n : Int))), w2) := by
    intro s0 s1 s2 hs
    refine Z_206_56 a2.1 ⟨_, _, _, b1, b2.1, fun q => nx s0 s1 s2 0 ?_, fun q => nx s0 s1 s2 4 ?_⟩
    · rw [bitN_f q]; omega
    · rw [bitN_t q]; omega
  have n2 : ∀ s0 s1 : Int, s0 + s1 = ((32 * bitN (bSix E n) + bitN (bBel E n) : Nat) : Int) → xGo 206 38 [some (.ref 39), some (.int (jI n))] [.int (jI s1), .int (jI s0)] w1 (some (.int (jI (tN E n : Int))), w2) := by
    intro s0 s1 hs
    refine Z_206_38 a2.1 ⟨_, _, C_msign a2 ok n0 hn, a2.1, _, _, C_mdueSign s32 n0 w1, a2.1, s32, s32, fun q => n3 s0 s1 0 ?_, fun q => n3 s0 s1 2 ?_⟩
    · rw [bitN_f (P := bSg E n) (fun z => z q)]; omega
    · rw [bitN_t (P := bSg E n) q]; omega
  have n1 : ∀ s0 : Int, s0 = ((32 * bitN (bSix E n) : Nat) : Int) → xGo 206 14 [some (.ref 39), some (.int (jI n))] [.int (jI s0)] w1 (some (.int (jI (tN E n : Int))), w2) := by
    intro s0 hs
    refine Z_206_14 a2.1 ⟨by omega, _, (M_nw a2 ht n0 hn rfl).2.2, _, _, C_dueBelow a2 n0 (by omega), a2.1, eb.2.2.1, s64, fun q => n2 s0 0 ?_, fun q => n2 s0 1 ?_⟩
    · rw [bitN_f (P := bBel E n) (fun z => z q)]; omega
    · rw [bitN_t (P := bBel E n) q]; omega
  refine ⟨w2, Z_206 h.1 ⟨_, _, _, a1, a2.1, fun q => n1 0 ?_, fun q => n1 32 ?_⟩, b2, a3.trans b3⟩
  · rw [bitN_f q]; rfl
  · rw [bitN_t q]; rfl
/-! tests -/
def tsS (E : eT) (t n : Int) : Int := if 0 ≤ n ∧ n ≤ 38 then (if n ≤ t then (tN E n : Int) else -2) else -1
theorem c_tests (ok : okS c E t ws me) {n : Int} (hn : in32 n) : cAns E t ws me E t ws me 106 [.int (jI n)] (.int (jI (tsS E t n))) := by
  intro w h
  have ht1 := ok.2.1
  have ht := ok.2.2.1
  by_cases a : 0 ≤ n ∧ n ≤ 38
  · by_cases b : n ≤ t
    · obtain ⟨w1, a1, a2, a3⟩ := C_failed h ok (n := n) (by omega) b (s := 63) (by decide)
      rw [n63 _ (tP_b E n).2.2.2.2.2] at a1
      refine ⟨w1, Z_106 h.1 ⟨_, _, _, C_isEntry hn w, h.1, fun _ => ⟨_, h.top, hn, s32, fun _ => ⟨_, _, a1, a2.1, ?_⟩, fun q => by omega⟩, fun q => absurd a q⟩, a2, a3.mono (by decide)⟩
      rw [show tsS E t n = (tN E n : Int) by unfold tsS; rw [if_pos a, if_pos b]]
    · refine ⟨w, Z_106 h.1 ⟨_, _, _, C_isEntry hn w, h.1, fun _ => ⟨_, h.top, hn, s32, fun q => absurd q b, fun _ => ?_⟩, fun q => absurd a q⟩, h, xsame.rf⟩
      rw [show tsS E t n = -2 by unfold tsS; rw [if_pos a, if_neg b]]
  · refine ⟨w, Z_106 h.1 ⟨_, _, _, C_isEntry hn w, h.1, fun q => absurd q a, fun _ => ?_⟩, h, xsame.rf⟩
    rw [show tsS E t n = -1 by unfold tsS; rw [if_neg a]]
theorem m_tests (ok : okS c E t ws me) {n : Int} (hn : in32 n) : mAns E t ws me E t ws me 241 [.int (jI n)] (.int (jI (tsS E t n))) := by
  intro w h0
  have h := h0.p0 (v := jI 0)
  have s0 : xsame mAll w (pF w 39 0 (.int (jI 0))) := sm_pF (by decide)
  have ht1 := ok.2.1
  have ht := ok.2.2.1
  by_cases a : 0 ≤ n ∧ n ≤ 38
  · by_cases b : n ≤ t
    · obtain ⟨w1, a1, a2, a3⟩ := C_testsOf h ok (n := n) (by omega) b
      refine ⟨w1, Z_241 h0.1 (fun w2 e _ => ?_), a2, s0.trans (a3.mono (by decide))⟩
      subst e
      refine ⟨_, _, _, C_misEntry hn _, h.1, fun _ => ⟨_, h.top, hn, s32, fun _ => ⟨_, _, a1, a2.1, ?_⟩, fun q => by omega⟩, fun q => absurd a q⟩
      rw [show tsS E t n = (tN E n : Int) by unfold tsS; rw [if_pos a, if_pos b]]
    · refine ⟨_, Z_241 h0.1 (fun w2 e _ => ?_), h, s0⟩
      subst e
      refine ⟨_, _, _, C_misEntry hn _, h.1, fun _ => ⟨_, h.top, hn, s32, fun q => absurd q b, fun _ => ?_⟩, fun q => absurd a q⟩
      rw [show tsS E t n = -2 by unfold tsS; rw [if_pos a, if_neg b]]
  · refine ⟨_, Z_241 h0.1 (fun w2 e _ => ?_), h, s0⟩
    subst e
    refine ⟨_, _, _, C_misEntry hn _, h.1, fun q => absurd q a, fun _ => ?_⟩
    rw [show tsS E t n = -1 by unfold tsS; rw [if_neg a]]
/-! broken -/
theorem bit4 : ∀ a, a < 4 → ∀ b, b < 2 → ∀ r, r < 8 → ((a + 4 * b + 8 * r) &&& 4 = 0 ↔ b = 0) := by decide
theorem t4 (E : eT) (n : Int) : tN E n &&& 4 = 0 ↔ ¬ bRec E n := by
  have a := bitN_le (bBel E n)
  have b := bitN_le (bSg E n)
  have d := bitN_le (bRec E n)
  have e := bitN_le (bKu E n)
  have f := bitN_le (bDv E n)
  have g := bitN_le (bSix E n)
  have k := bit4 (bitN (bBel E n) + 2 * bitN (bSg E n)) (by omega) (bitN (bRec E n)) (by omega) (bitN (bKu E n) + 2 * bitN (bDv E n) + 4 * bitN (bSix E n)) (by omega)
  have e2 : tN E n = bitN (bBel E n) + 2 * bitN (bSg E n) + 4 * bitN (bRec E n) + 8 * (bitN (bKu E n) + 2 * bitN (bDv E n) + 4 * bitN (bSix E n)) := by
    unfold tN tP5 tP4 tP3 tP2 tP1; omega
  rw [e2, k]
  by_cases q : bRec E n
  · rw [bitN_t q]; exact ⟨fun z => by omega, fun z => absurd q z⟩
  · rw [bitN_f q]; exact ⟨fun _ => q, fun _ => rfl⟩
def brM (E : eT) : Nat → Int
  | 0 => 0
  | k + 1 => brM E k + (if bRec E (k : Int) then 1 else 0)
def brF (E : eT) : Nat → Int
  | 0 => -2
  | k + 1 => if brM E k = 0 ∧ bRec E (k : Int) then (k : Int) else brF E k
theorem br_i (E : eT) : ∀ k : Nat, 0 ≤ brM E k ∧ brM E k ≤ k ∧ (brM E k = 0 → brF E k = -2) ∧ (brM E k ≠ 0 → 0 ≤ brF E k) ∧ brF E k ≤ k
  | 0 => ⟨Int.le_refl 0, Int.le_refl 0, fun _ => rfl, fun q => absurd rfl q, show (-2 : Int) ≤ 0 by decide⟩
  | k + 1 => by
    obtain ⟨a, b, d, e, f⟩ := br_i E k
    show 0 ≤ brM E k + (if bRec E (k : Int) then 1 else 0) ∧ brM E k + (if bRec E (k : Int) then 1 else 0) ≤ ((k + 1 : Nat) : Int) ∧ (brM E k + (if bRec E (k : Int) then 1 else 0) = 0 → (if brM E k = 0 ∧ bRec E (k : Int) then (k : Int) else brF E k) = -2) ∧ (brM E k + (if bRec E (k : Int) then 1 else 0) ≠ 0 → 0 ≤ (if brM E k = 0 ∧ bRec E (k : Int) then (k : Int) else brF E k)) ∧ (if brM E k = 0 ∧ bRec E (k : Int) then (k : Int) else brF E k) ≤ ((k + 1 : Nat) : Int)
    by_cases q : bRec E (k : Int)
    · rw [if_pos q]
      by_cases z : brM E k = 0
      · rw [if_pos ⟨z, q⟩]; exact ⟨by omega, by omega, fun y => by omega, fun _ => by omega, by omega⟩
      · rw [if_neg (fun y => z y.1)]; exact ⟨by omega, by omega, fun y => by omega, fun _ => e z, by omega⟩
    · rw [if_neg q, if_neg (fun y => q y.2)]
      exact ⟨by omega, by omega, fun y => d (by omega), fun y => e (by omega), by omega⟩
def brS (E : eT) (t x : Int) : Int := if 0 ≤ x ∧ x ≤ 1 then (if x = 0 then brF E (t + 1).toNat else brM E (t + 1).toNat) else -1
theorem L_broken (ok : okS c E t ws me) {x : Int} (hx : 0 ≤ x ∧ x ≤ 1) : ∀ (k i : Nat) (w : xW), (i : Int) + k = t + 1 → 1 ≤ i → cst E t ws me w →
    ∃ w', xGo 108 19 [some (.ref 0), some (.int (jI x)), some (.int (jI (brF E i))), some (.int (jI (brM E i))), some (.int (jI (i : Int)))] [] w (some (.int (jI (brS E t x))), w') ∧ cst E t ws me w' ∧ xsame [3] w w' := by
  have ht := ok.2.2.1
  intro k
  induction k with
  | zero =>
    intro i w hi i1 h
    have e : (t + 1).toNat = i := by omega
    refine ⟨w, Z_108_19 h.1 ⟨_, h.top, s32, s32, fun _ => ⟨s32, fun q => ?_, fun q => ?_⟩, fun q => by omega⟩, h, xsame.rf⟩
    · rw [show brS E t x = brM E i by unfold brS; rw [if_pos hx, if_neg q, e]]
    · rw [show brS E t x = brF E i by unfold brS; rw [if_pos hx, if_pos q, e]]
  | succ k ih =>
    intro i w hi i1 h
    obtain ⟨w1, a1, a2, a3⟩ := C_failed h ok (n := (i : Int)) (by omega) (by omega) (s := 4) (by decide)
    obtain ⟨w2, b1, b2, b3⟩ := ih (i + 1) w1 (by omega) (by omega) a2
    obtain ⟨m0, m1, m2, m3, m4⟩ := br_i E i
    have eM : brM E (i + 1) = brM E i + (if bRec E (i : Int) then 1 else 0) := rfl
    have eF : brF E (i + 1) = if brM E i = 0 ∧ bRec E (i : Int) then (i : Int) else brF E i := rfl
    have t4' := t4 E (i : Int)
    rw [eM, eF] at b1
    refine ⟨w2, Z_108_19 h.1 ⟨_, h.top, s32, s32, fun q => by omega, fun _ => ⟨_, _, a1, a2.1, nd_in (by decide), fun q => ⟨s32, fun z => ?_, fun z => ?_⟩, fun q => ?_⟩⟩, b2, a3.trans b3⟩
    · have r : bRec E (i : Int) := Decidable.not_not.mp (fun y => q (by rw [t4'.mpr y]; rfl))
      rw [if_pos r, if_neg (fun y => z y.1)] at b1
      exact b1
    · have r : bRec E (i : Int) := Decidable.not_not.mp (fun y => q (by rw [t4'.mpr y]; rfl))
      rw [if_pos r, if_pos ⟨z, r⟩] at b1
      exact b1
    · have r : ¬ bRec E (i : Int) := t4'.mp (by omega)
      rw [if_neg r, if_neg (fun y => r y.2), Int.add_zero] at b1
      exact b1
theorem br_1 (E : eT) : brM E 1 = 0 ∧ brF E 1 = -2 := by
  have q : ¬ bRec E ((0 : Nat) : Int) := fun z => by have := z.1; omega
  constructor
  · show 0 + (if bRec E ((0 : Nat) : Int) then 1 else 0) = (0 : Int)
    rw [if_neg q]; rfl
  · show (if brM E 0 = 0 ∧ bRec E ((0 : Nat) : Int) then ((0 : Nat) : Int) else brF E 0) = -2
    rw [if_neg (fun z => q z.2)]; rfl
theorem c_broken (ok : okS c E t ws me) {x : Int} (hx : in32 x) : cAns E t ws me E t ws me 108 [.int (jI x)] (.int (jI (brS E t x))) := by
  intro w h
  have ht1 := ok.2.1
  have ht := ok.2.2.1
  by_cases a : 0 ≤ x ∧ x ≤ 1
  · by_cases b : t = -1
    · refine ⟨w, Z_108 h.1 ⟨hx, fun q => by omega, fun _ => ⟨fun _ => ?_, fun q => by omega⟩⟩, h, xsame.rf⟩
      refine Z_108_19 h.1 ⟨_, h.top, s32, s32, fun _ => ⟨s32, fun q => ?_, fun q => ?_⟩, fun q => by omega⟩
      · rw [show brS E t x = brM E (t + 1).toNat by unfold brS; rw [if_pos a, if_neg q], b]; rfl
      · rw [show brS E t x = brF E (t + 1).toNat by unfold brS; rw [if_pos a, if_pos q], b]; rfl
    · obtain ⟨w1, a1, a2, a3⟩ := L_broken ok a t.toNat 1 w (by omega) (by omega) h
      rw [(br_1 E).1, (br_1 E).2] at a1
      exact ⟨w1, Z_108 h.1 ⟨hx, fun q => by omega, fun _ => ⟨fun _ => a1, fun q => by omega⟩⟩, a2, a3.mono (by decide)⟩
  · have e : brS E t x = -1 := if_neg a
    exact ⟨w, Z_108 h.1 ⟨hx, fun q => by rw [e], fun _ => ⟨fun q => by omega, fun q => by rw [e]⟩⟩, h, xsame.rf⟩
theorem L_mbroken (ok : okS c E t ws me) {x : Int} (hx : 0 ≤ x ∧ x ≤ 1) : ∀ (k i : Nat) (w : xW), (i : Int) + k = t + 1 → 1 ≤ i → mst E t ws me w →
    ∃ w', xGo 249 24 [some (.ref 39), some (.int (jI x)), some (.int (jI (brF E i))), some (.int (jI (brM E i))), some (.int (jI (i : Int)))] [] w (some (.int (jI (brS E t x))), w') ∧ mst E t ws me w' ∧ xsame [39] w w' := by
  have ht := ok.2.2.1
  intro k
  induction k with
  | zero =>
    intro i w hi i1 h
    have e : (t + 1).toNat = i := by omega
    refine ⟨w, Z_249_24 h.1 ⟨_, h.top, s32, s32, fun _ => ⟨s32, fun q => ?_, fun q => ?_⟩, fun q => by omega⟩, h, xsame.rf⟩
    · rw [show brS E t x = brM E i by unfold brS; rw [if_pos hx, if_neg q, e]]
    · rw [show brS E t x = brF E i by unfold brS; rw [if_pos hx, if_pos q, e]]
  | succ k ih =>
    intro i w hi i1 h
    obtain ⟨w1, a1, a2, a3⟩ := C_breaksSum h ok (n := (i : Int)) (by omega) (by omega)
    obtain ⟨w2, b1, b2, b3⟩ := ih (i + 1) w1 (by omega) (by omega) a2
    obtain ⟨m0, m1, m2, m3, m4⟩ := br_i E i
    have m5 : -2 ≤ brF E i := by
      by_cases q : brM E i = 0
      · rw [m2 q]; decide
      · have := m3 q; omega
    have eM : brM E (i + 1) = brM E i + (if bRec E (i : Int) then 1 else 0) := rfl
    have eF : brF E (i + 1) = if brM E i = 0 ∧ bRec E (i : Int) then (i : Int) else brF E i := rfl
    rw [eM, eF] at b1
    refine ⟨w2, Z_249_24 h.1 ⟨_, h.top, s32, s32, fun q => by omega, fun _ => ⟨_, _, _, a1, a2.1, fun r => ⟨s32, fun z => ?_, fun z => ?_⟩, fun r => ?_⟩⟩, b2, a3.trans b3⟩
    · rw [if_pos r, if_neg (fun y => by have := m2 y.1; omega)] at b1
      exact b1
    · rw [if_pos r, if_pos ⟨Decidable.not_not.mp (fun y => by have := m3 y; omega), r⟩] at b1
      exact b1
    · rw [if_neg r, if_neg (fun y => r y.2), Int.add_zero] at b1
      exact b1
theorem m_broken (ok : okS c E t ws me) {x : Int} (hx : in32 x) : mAns E t ws me E t ws me 249 [.int (jI x)] (.int (jI (brS E t x))) := by
  intro w h0
  have h := h0.p0 (v := jI 0)
  have s0 : xsame mAll w (pF w 39 0 (.int (jI 0))) := sm_pF (by decide)
  have ht1 := ok.2.1
  have ht := ok.2.2.1
  by_cases a : 0 ≤ x ∧ x ≤ 1
  · by_cases b : t = -1
    · refine ⟨_, Z_249 h0.1 (fun w2 e _ => ?_), h, s0⟩
      subst e
      refine ⟨_, _, _, C_isIn hx s32 s32 _, h.1, fun _ => ?_, fun q => absurd a q⟩
      refine Z_249_24 h.1 ⟨_, h.top, s32, s32, fun _ => ⟨s32, fun q => ?_, fun q => ?_⟩, fun q => by omega⟩
      · rw [show brS E t x = brM E (t + 1).toNat by unfold brS; rw [if_pos a, if_neg q], b]; rfl
      · rw [show brS E t x = brF E (t + 1).toNat by unfold brS; rw [if_pos a, if_pos q], b]; rfl
    · obtain ⟨w1, a1, a2, a3⟩ := L_mbroken ok a t.toNat 1 _ (by omega) (by omega) h
      rw [(br_1 E).1, (br_1 E).2] at a1
      refine ⟨w1, Z_249 h0.1 (fun w2 e _ => ?_), a2, s0.trans (a3.mono (by decide))⟩
      subst e
      exact ⟨_, _, _, C_isIn hx s32 s32 _, h.1, fun _ => a1, fun q => absurd a q⟩
  · have e : brS E t x = -1 := if_neg a
    refine ⟨_, Z_249 h0.1 (fun w2 e2 _ => ?_), h, s0⟩
    subst e2
    exact ⟨_, _, _, C_isIn hx s32 s32 _, h.1, fun q => absurd q a, fun _ => by rw [e]⟩
end T5
