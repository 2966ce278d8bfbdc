/-! NUMBERS: a machine number as the whole number that it stands for -/
def in32 (z : Int) : Prop := -2147483648 ≤ z ∧ z ≤ 2147483647
def in64 (z : Int) : Prop := -9223372036854775808 ≤ z ∧ z ≤ 9223372036854775807
abbrev jI (z : Int) : Int32 := Int32.ofInt z
abbrev jL (z : Int) : Int64 := Int64.ofInt z
theorem jI_of (x : Int32) : ∃ z, in32 z ∧ x = jI z := ⟨x.toInt, ⟨x.le_toInt, Int.le_of_lt_add_one x.toInt_lt⟩, (Int32.ofInt_toInt x).symm⟩
theorem jL_of (x : Int64) : ∃ z, in64 z ∧ x = jL z := ⟨x.toInt, ⟨x.le_toInt, Int.le_of_lt_add_one x.toInt_lt⟩, (Int64.ofInt_toInt x).symm⟩
theorem jI_toInt {z : Int} (h : in32 z) : (jI z).toInt = z := Int32.toInt_ofInt_of_le h.1 (Int.lt_of_le_of_lt h.2 (by decide))
theorem jL_toInt {z : Int} (h : in64 z) : (jL z).toInt = z := Int64.toInt_ofInt_of_le h.1 (Int.lt_of_le_of_lt h.2 (by decide))
theorem jI_add (a b : Int) : jI a + jI b = jI (a + b) := (Int32.ofInt_add a b).symm
theorem jI_sub (a b : Int) : jI a - jI b = jI (a - b) := (Int32.ofInt_sub a b).symm
theorem jI_mul (a b : Int) : jI a * jI b = jI (a * b) := (Int32.ofInt_mul a b).symm
theorem jI_neg (a : Int) : -jI a = jI (-a) := (Int32.ofInt_neg a).symm
theorem jL_add (a b : Int) : jL a + jL b = jL (a + b) := (Int64.ofInt_add a b).symm
theorem jL_sub (a b : Int) : jL a - jL b = jL (a - b) := (Int64.ofInt_sub a b).symm
theorem jL_mul (a b : Int) : jL a * jL b = jL (a * b) := (Int64.ofInt_mul a b).symm
theorem jL_neg (a : Int) : -jL a = jL (-a) := (Int64.ofInt_neg a).symm
theorem jI_lt {a b : Int} (ha : in32 a) (hb : in32 b) : jI a < jI b ↔ a < b := Int32.ofInt_lt_iff_lt ha.1 ha.2 hb.1 hb.2
theorem jI_le {a b : Int} (ha : in32 a) (hb : in32 b) : jI a ≤ jI b ↔ a ≤ b := Int32.ofInt_le_iff_le ha.1 ha.2 hb.1 hb.2
theorem jI_eq {a b : Int} (ha : in32 a) (hb : in32 b) : jI a = jI b ↔ a = b := ⟨fun h => by have := congrArg Int32.toInt h; rwa [jI_toInt ha, jI_toInt hb] at this, fun h => by rw [h]⟩
theorem jL_lt {a b : Int} (ha : in64 a) (hb : in64 b) : jL a < jL b ↔ a < b := Int64.ofInt_lt_iff_lt ha.1 ha.2 hb.1 hb.2
theorem jL_le {a b : Int} (ha : in64 a) (hb : in64 b) : jL a ≤ jL b ↔ a ≤ b := Int64.ofInt_le_iff_le ha.1 ha.2 hb.1 hb.2
theorem jL_eq {a b : Int} (ha : in64 a) (hb : in64 b) : jL a = jL b ↔ a = b := ⟨fun h => by have := congrArg Int64.toInt h; rwa [jL_toInt ha, jL_toInt hb] at this, fun h => by rw [h]⟩
theorem jI_div {a b : Int} (ha : in32 a) (hb : in32 b) : jI a / jI b = jI (a.tdiv b) := (Int32.ofInt_tdiv ha.1 ha.2 hb.1 hb.2).symm
theorem jL_div {a b : Int} (ha : in64 a) (hb : in64 b) : jL a / jL b = jL (a.tdiv b) := (Int64.ofInt_tdiv ha.1 ha.2 hb.1 hb.2).symm
theorem jI_rem {a b : Int} (ha : in32 a) (hb : in32 b) : irem (jI a) (jI b) = jI (a.tmod b) := by
  unfold irem
  rw [jI_div ha hb, jI_mul, jI_sub, Int.tmod_def, Int.mul_comm b]
theorem jL_rem {a b : Int} (ha : in64 a) (hb : in64 b) : lrem (jL a) (jL b) = jL (a.tmod b) := by
  unfold lrem
  rw [jL_div ha hb, jL_mul, jL_sub, Int.tmod_def, Int.mul_comm b]
/-- of numbers that aren't below 0 -/
theorem jI_divN {a b : Int} (ha : in32 a) (h0 : 0 ≤ a) (hb : in32 b) : jI a / jI b = jI (a / b) := by rw [jI_div ha hb, Int.tdiv_eq_ediv_of_nonneg h0]
theorem jL_divN {a b : Int} (ha : in64 a) (h0 : 0 ≤ a) (hb : in64 b) : jL a / jL b = jL (a / b) := by rw [jL_div ha hb, Int.tdiv_eq_ediv_of_nonneg h0]
theorem jI_remN {a b : Int} (ha : in32 a) (h0 : 0 ≤ a) (hb : in32 b) : irem (jI a) (jI b) = jI (a % b) := by rw [jI_rem ha hb, Int.tmod_eq_emod_of_nonneg h0]
theorem jL_remN {a b : Int} (ha : in64 a) (h0 : 0 ≤ a) (hb : in64 b) : lrem (jL a) (jL b) = jL (a % b) := by rw [jL_rem ha hb, Int.tmod_eq_emod_of_nonneg h0]
theorem jI_toL {a : Int} (h : in32 a) : (jI a).toInt64 = jL a := by
  rw [← Int64.ofInt_int32ToInt, jI_toInt h]
theorem jL_toI (a : Int) : (jL a).toInt32 = jI a := Int64.toInt32_ofInt
theorem jI_nat {a : Int} (h : in32 a) : (jI a).toNatClampNeg = a.toNat := by
  rw [← Int32.toNat_toInt, jI_toInt h]
theorem jI_in {a : Int} {n : Nat} (h : in32 a) (h0 : 0 ≤ a) (h1 : a < n) : ¬ (jI a < 0 ∨ n ≤ (jI a).toNatClampNeg) := by
  rintro (q | q)
  · have := (jI_lt h (b := 0) ⟨by decide, by decide⟩).mp q
    omega
  · rw [jI_nat h] at q
    omega
theorem jI_lit (n : Nat) : (OfNat.ofNat n : Int32) = jI n := Int32.ofInt_eq_ofNat.symm
theorem jL_lit (n : Nat) : (OfNat.ofNat n : Int64) = jL n := Int64.ofInt_eq_ofNat.symm
theorem in32_of {z : Int} (h1 : -2147483648 ≤ z) (h2 : z ≤ 2147483647) : in32 z := ⟨h1, h2⟩
theorem in64_of {z : Int} (h1 : -9223372036854775808 ≤ z) (h2 : z ≤ 9223372036854775807) : in64 z := ⟨h1, h2⟩
/-- the sign of a bitwise xor, of a number above 0 -/
theorem jL_xor0 {a b : Int} (ha : in64 a) (hb : in64 b) (h0 : 0 ≤ b) : (0 : Int64) ≤ (jL a ^^^ jL b) ↔ 0 ≤ a := by
  have e : (jL a ^^^ jL b).toBitVec.msb = (jL a).toBitVec.msb := by
    rw [Int64.toBitVec_xor, BitVec.msb_xor]
    have hb2 : (jL b).toBitVec.msb = false := by
      rw [BitVec.msb_eq_toInt, Int64.toInt_toBitVec, jL_toInt hb]
      simpa using h0
    rw [hb2, Bool.xor_false]
  have k : ∀ x : Int64, (0 : Int64) ≤ x ↔ x.toBitVec.msb = false := by
    intro x
    rw [Int64.le_iff_toInt_le, BitVec.msb_eq_toInt, Int64.toInt_toBitVec, Int64.toInt_zero]
    simp
  rw [k, e, ← k]
  have h : (0 : Int64) = jL 0 := rfl
  rw [h, jL_le ⟨by decide, by decide⟩ ha]
/-! Math -/
theorem C_floorMod {a b : Int} (ha : in64 a) (hb : in64 b) (h0 : 0 < b) (w : xW) : xCall 17 [.long (jL a), .long (jL b)] w (some (.long (jL (a % b))), w) := by
  unfold xCall
  have z64 : in64 0 := ⟨by decide, by decide⟩
  refine S_17_0 ⟨?_, ?_⟩
  · rw [show (0 : Int64) = jL 0 from rfl, jL_eq hb z64]
    omega
  · intro v hv
    rw [jL_rem ha hb] at hv
    subst hv
    have hm0 := Int.emod_nonneg a (Int.ne_of_gt h0)
    have hm1 := Int.emod_lt_of_pos a h0
    refine ⟨fun h => ?_, fun h => ⟨fun h2 => ?_, fun h2 => ?_⟩⟩
    · rw [jL_xor0 ha hb (Int.le_of_lt h0)] at h
      rw [Int.tmod_eq_emod_of_nonneg h]
    · rw [jL_xor0 ha hb (Int.le_of_lt h0)] at h
      have ht : in64 (a.tmod b) := by
        have := Int.tmod_eq_emod (a := a) (b := b)
        have hh := hb.2
        unfold in64 at *
        rw [this]
        split <;> omega
      rw [show (0 : Int64) = jL 0 from rfl, jL_eq ht z64] at h2
      rw [h2]
      have hd : b ∣ a := Int.dvd_of_tmod_eq_zero h2
      rw [Int.emod_eq_zero_of_dvd hd]
    · rw [jL_xor0 ha hb (Int.le_of_lt h0)] at h
      have e := Int.tmod_eq_emod (a := a) (b := b)
      have ht : in64 (a.tmod b) := by
        have hh := hb.2
        unfold in64 at *
        rw [e]
        split <;> omega
      rw [show (0 : Int64) = jL 0 from rfl, jL_eq ht z64] at h2
      have hnd : ¬ (0 ≤ a ∨ b ∣ a) := fun q => q.elim h (fun q => h2 (Int.tmod_eq_zero_of_dvd q))
      rw [if_neg hnd] at e
      rw [jL_add, e]
      congr 3
      have : (b.natAbs : Int) = b := Int.natAbs_of_nonneg (Int.le_of_lt h0)
      congr 1
      omega
theorem z64 : in64 0 := ⟨by decide, by decide⟩
theorem z32 : in32 0 := ⟨by decide, by decide⟩
theorem x_tdiv_le {a b : Int} (h0 : 0 < b) (hb : in64 b) (ha : in64 a) : in64 (a.tdiv b) ∧ in64 (a.tdiv b * b) := by
  have e := Int.tdiv_eq_ediv (a := a) (b := b)
  have hs : b.sign = 1 := Int.sign_eq_one_of_pos h0
  have h1 := Int.mul_ediv_add_emod a b
  have h2 := Int.emod_nonneg a (Int.ne_of_gt h0)
  have h3 := Int.emod_lt_of_pos a h0
  have hc : b * (a / b) = a / b * b := Int.mul_comm _ _
  unfold in64 at *
  have key : (0 ≤ a → 0 ≤ a / b ∧ a / b ≤ a) ∧ (a < 0 → a ≤ a / b ∧ a / b < 0) := by
    refine ⟨fun h => ⟨Int.ediv_nonneg h (Int.le_of_lt h0), Int.ediv_le_self _ h⟩, fun h => ⟨?_, Int.ediv_neg_of_neg_of_pos h h0⟩⟩
    rw [Int.le_ediv_iff_mul_le h0]
    have : a * b ≤ a * 1 := Int.mul_le_mul_of_nonpos_left (by omega) (by omega)
    omega
  rw [e]
  split
  · rename_i hc2
    rw [Int.add_zero]
    rcases hc2 with hc2 | hc2
    · have := key.1 hc2
      omega
    · have : a / b * b = a := Int.ediv_mul_cancel hc2
      by_cases hz : 0 ≤ a
      · have := key.1 hz
        omega
      · have := key.2 (by omega)
        omega
  · rename_i hc2
    have hz : a < 0 := by
      apply Int.lt_of_not_ge
      intro q
      exact hc2 (Or.inl q)
    have := key.2 hz
    rw [hs, Int.add_mul, Int.one_mul]
    omega
theorem C_floorDiv {a b : Int} (ha : in64 a) (hb : in64 b) (h0 : 0 < b) (w : xW) : xCall 19 [.long (jL a), .long (jL b)] w (some (.long (jL (a / b))), w) := by
  obtain ⟨ht, ht2⟩ := x_tdiv_le h0 hb ha
  have e := Int.tdiv_eq_ediv (a := a) (b := b)
  have hs : b.sign = 1 := Int.sign_eq_one_of_pos h0
  refine E_19 (S_19_0 ⟨?_, ?_⟩)
  · rw [show (0 : Int64) = jL 0 from rfl, jL_eq hb z64]
    omega
  · intro v hv
    rw [jL_div ha hb] at hv
    subst hv
    rw [jL_xor0 ha hb (Int.le_of_lt h0), jL_mul, jL_eq ht2 ha]
    refine ⟨fun h => ?_, fun h => ⟨fun h2 => ?_, fun h2 => ?_⟩⟩
    · rw [Int.tdiv_eq_ediv_of_nonneg h]
    · have hd : b ∣ a := ⟨a.tdiv b, by rw [Int.mul_comm]; exact h2.symm⟩
      rw [Int.tdiv_eq_ediv_of_dvd hd]
    · have hn : ¬ (0 ≤ a ∨ b ∣ a) := fun q => q.elim h fun q => h2 (Int.tdiv_mul_cancel q)
      rw [if_neg hn, hs] at e
      rw [e, show (1 : Int64) = jL 1 from rfl, jL_sub]
      congr 4
      omega
theorem bI_le (a b : Int) (ha : in32 a) (hb : in32 b) {P Q : Prop} (hP : a ≤ b → P) (hQ : b < a → Q) : (jI a ≤ jI b → P) ∧ (¬ (jI a ≤ jI b) → Q) := ⟨fun h => hP ((jI_le ha hb).mp h), fun h => hQ (Int.lt_of_not_ge (fun q => h ((jI_le ha hb).mpr q)))⟩
theorem bI_lt (a b : Int) (ha : in32 a) (hb : in32 b) {P Q : Prop} (hP : a < b → P) (hQ : b ≤ a → Q) : (jI a < jI b → P) ∧ (¬ (jI a < jI b) → Q) := ⟨fun h => hP ((jI_lt ha hb).mp h), fun h => hQ (Int.le_of_not_gt (fun q => h ((jI_lt ha hb).mpr q)))⟩
theorem bI_eq (a b : Int) (ha : in32 a) (hb : in32 b) {P Q : Prop} (hP : a = b → P) (hQ : a ≠ b → Q) : (jI a = jI b → P) ∧ (¬ (jI a = jI b) → Q) := ⟨fun h => hP ((jI_eq ha hb).mp h), fun h => hQ (fun q => h ((jI_eq ha hb).mpr q))⟩
theorem bI_ne (a b : Int) (ha : in32 a) (hb : in32 b) {P Q : Prop} (hP : a ≠ b → P) (hQ : a = b → Q) : (¬ jI a = jI b → P) ∧ (¬ (¬ jI a = jI b) → Q) := ⟨fun h => hP (fun q => h ((jI_eq ha hb).mpr q)), fun h => hQ ((jI_eq ha hb).mp (Decidable.not_not.mp h))⟩
theorem ne_I (a b : Int) (ha : in32 a) (hb : in32 b) (h : a ≠ b) : ¬ jI a = jI b := fun q => h ((jI_eq ha hb).mp q)
theorem bL_le (a b : Int) (ha : in64 a) (hb : in64 b) {P Q : Prop} (hP : a ≤ b → P) (hQ : b < a → Q) : (jL a ≤ jL b → P) ∧ (¬ (jL a ≤ jL b) → Q) := ⟨fun h => hP ((jL_le ha hb).mp h), fun h => hQ (Int.lt_of_not_ge (fun q => h ((jL_le ha hb).mpr q)))⟩
theorem bL_lt (a b : Int) (ha : in64 a) (hb : in64 b) {P Q : Prop} (hP : a < b → P) (hQ : b ≤ a → Q) : (jL a < jL b → P) ∧ (¬ (jL a < jL b) → Q) := ⟨fun h => hP ((jL_lt ha hb).mp h), fun h => hQ (Int.le_of_not_gt (fun q => h ((jL_lt ha hb).mpr q)))⟩
theorem bL_eq (a b : Int) (ha : in64 a) (hb : in64 b) {P Q : Prop} (hP : a = b → P) (hQ : a ≠ b → Q) : (jL a = jL b → P) ∧ (¬ (jL a = jL b) → Q) := ⟨fun h => hP ((jL_eq ha hb).mp h), fun h => hQ (fun q => h ((jL_eq ha hb).mpr q))⟩
theorem bL_ne (a b : Int) (ha : in64 a) (hb : in64 b) {P Q : Prop} (hP : a ≠ b → P) (hQ : a = b → Q) : (¬ jL a = jL b → P) ∧ (¬ (¬ jL a = jL b) → Q) := ⟨fun h => hP (fun q => h ((jL_eq ha hb).mpr q)), fun h => hQ ((jL_eq ha hb).mp (Decidable.not_not.mp h))⟩
theorem ne_L (a b : Int) (ha : in64 a) (hb : in64 b) (h : a ≠ b) : ¬ jL a = jL b := fun q => h ((jL_eq ha hb).mp q)
theorem s32 {z : Int} (h1 : -2147483648 ≤ z := by omega) (h2 : z ≤ 2147483647 := by omega) : in32 z := ⟨h1, h2⟩
theorem s64 {z : Int} (h1 : -9223372036854775808 ≤ z := by omega) (h2 : z ≤ 9223372036854775807 := by omega) : in64 z := ⟨h1, h2⟩
theorem sh_idx : ∀ n, n < 32 → ((nI n &&& 31).toBitVec.smod 32).toNat = n := by decide
theorem jI_nI (n : Nat) : jI (n : Int) = nI n := Int32.ofInt_eq_ofNat
theorem jI_shr {n i : Nat} (hn : n < 2 ^ 31) (hi : i < 32) : jI (n : Int) >>> (jI (i : Int) &&& 31) = jI ((n / 2 ^ i : Nat) : Int) := by
  rw [jI_nI, jI_nI, jI_nI]
  exact pk_shrN hn _ i (sh_idx i hi)
theorem jI_and1 {n : Nat} (hn : n < 2 ^ 31) : jI (n : Int) &&& (1 : Int32) = jI ((n % 2 : Nat) : Int) := by
  rw [jI_nI, jI_nI]
  exact pk_andN (by omega) 1 (by decide)
