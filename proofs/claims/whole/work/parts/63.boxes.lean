/-! the calls onto, byBoxes, zigzag -/
def ttB (k a b : Int) : Int := if 0 ≤ a ∧ 0 ≤ b ∧ a ≤ 9223372036854775807 - b ∧ a + b ≤ 9223372036854775807 / k then k * (a + b) else -1
def bxN (prev : Nat → Int) : Nat → Int
  | 0 => 0
  | k + 1 => ttB ((k : Int) + 1) (prev (k + 1)) (prev k)
def bx : Nat → Nat → Int
  | 0 => fun k => if k = 0 then 1 else 0
  | n + 1 => bxN (bx n)
theorem bx_b : ∀ n k : Nat, -1 ≤ bx n k ∧ bx n k ≤ 9223372036854775807
  | 0, k => by
    show -1 ≤ (if k = 0 then (1 : Int) else 0) ∧ (if k = 0 then (1 : Int) else 0) ≤ 9223372036854775807
    split <;> omega
  | n + 1, 0 => ⟨show (-1 : Int) ≤ 0 by decide, show (0 : Int) ≤ 9223372036854775807 by decide⟩
  | n + 1, k + 1 => by
    show -1 ≤ ttB ((k : Int) + 1) (bx n (k + 1)) (bx n k) ∧ ttB ((k : Int) + 1) (bx n (k + 1)) (bx n k) ≤ 9223372036854775807
    unfold ttB
    by_cases h : 0 ≤ bx n (k + 1) ∧ 0 ≤ bx n k ∧ bx n (k + 1) ≤ 9223372036854775807 - bx n k ∧ bx n (k + 1) + bx n k ≤ 9223372036854775807 / ((k : Int) + 1)
    · rw [if_pos h]
      have m := Int.mul_nonneg (show 0 ≤ (k : Int) + 1 by omega) (show 0 ≤ bx n (k + 1) + bx n k by omega)
      have d : ((k : Int) + 1) * (bx n (k + 1) + bx n k) ≤ ((k : Int) + 1) * (9223372036854775807 / ((k : Int) + 1)) := Int.mul_le_mul_of_nonneg_left h.2.2.2 (by omega)
      have e := Int.mul_ediv_self_le (x := 9223372036854775807) (k := (k : Int) + 1) (by omega)
      omega
    · rw [if_neg h]; exact ⟨by decide, by decide⟩
theorem bx_0 : ∀ n k : Nat, n < k → bx n k = 0
  | 0, k, h => if_neg (by omega)
  | n + 1, 0, h => by omega
  | n + 1, k + 1, h => by
    show ttB ((k : Int) + 1) (bx n (k + 1)) (bx n k) = 0
    rw [bx_0 n (k + 1) (by omega), bx_0 n k (by omega)]
    unfold ttB
    rw [if_pos ⟨by decide, by decide, by decide, Int.ediv_nonneg (by decide) (by omega)⟩]
    simp
theorem L_6 : ∀ (k i : Nat) (w : xW), i + k = 40 → CS w → (∀ j, j < i → rL w 37 j 0) →
    ∃ w', xGo 6 6 [some (.ref 37), some (.long (jL 0)), none, some (.int (jI (i : Int))), some (.int (jI 40))] [] w (none, w') ∧ CS w' ∧ xsame [37] w w' ∧ ∀ j, j < 40 → rL w' 37 j 0 := by
  intro k
  induction k with
  | zero =>
    intro i w hi hC H
    exact ⟨w, S_6_6 ⟨fun _ => rfl, fun q => absurd ((jI_le s32 s32).mpr (by omega)) q⟩, hC, xsame.rf, fun j hj => H j (by omega)⟩
  | succ k ih =>
    intro i w hi hC H
    obtain ⟨f, hf⟩ := kl_37 hC
    have sm : xsame [37] w (pL w 37 i (jL 0)) := sm_pL (by decide)
    obtain ⟨w', g1, g2, g3, g4⟩ := ih (i + 1) (pL w 37 i (jL 0)) (by omega) hC.putL (fun j hj => by
      by_cases z : j = i
      · rw [z]; exact ((kl_37 hC).has (by decide) (by omega)).put
      · exact (H j (by omega)).put z)
    refine ⟨w', S_6_6 ⟨fun q => absurd q (fun z => by have := (jI_le (a := 40) (b := (i : Int)) s32 s32).mp z; omega), fun _ => ⟨_, _, hf, ixin (by omega) (by decide), fun w5 e5 v6 e6 => ?_⟩⟩, g2, sm.trans g3, g4⟩
    rw [ixn (by omega)] at e5
    rw [e5, e6, show (1 : Int32) = jI 1 from rfl, jI_add]
    have e : List.set w 37 (aL 40 (vp_updL f i (jL 0))) = pL w 37 i (jL 0) := (pL_of hf).symm
    show xGo 6 6 _ [] (List.set w 37 (aL 40 (vp_updL f i (jL 0)))) (none, w')
    rw [e]
    exact g1
theorem C_fillR {w : xW} (hC : CS w) : ∃ w', xCall 6 [.ref 37, .long (jL 0)] w (none, w') ∧ CS w' ∧ xsame [37] w w' ∧ ∀ j, j < 40 → rL w' 37 j 0 := by
  obtain ⟨w', g1, g2, g3, g4⟩ := L_6 40 0 w rfl hC (fun j hj => by omega)
  obtain ⟨f, hf⟩ := kl_37 hC
  exact ⟨w', E_6 (S_6_0 ⟨_, _, hf, fun v4 e4 => by rw [e4]; exact g1⟩), g2, g3, g4⟩
theorem C_ttB {w : xW} (hC : CS w) {k a b : Int} (k1 : 1 ≤ k) (k2 : k ≤ 100) (a0 : -1 ≤ a) (a1 : a ≤ 9223372036854775807) (b0 : -1 ≤ b) (b1 : b ≤ 9223372036854775807) : xCall 178 [.int (jI k), .long (jL a), .long (jL b)] w (some (.long (jL (ttB k a b))), w) := by
  have d0 : 0 ≤ 9223372036854775807 / k := Int.ediv_nonneg (by decide) (by omega)
  have d1 : 9223372036854775807 / k ≤ 9223372036854775807 := Int.ediv_le_self _ (by decide)
  unfold ttB
  refine Z_178 hC ⟨s32, fun q => by omega, fun _ => ⟨⟨by omega, by omega⟩, fun q => ?_, fun q1 => ⟨⟨by omega, by omega⟩, fun q => ?_, fun q2 => ⟨⟨by omega, by omega⟩, fun q => ?_, fun q3 => ⟨by omega, _, tdN (by decide), ⟨by omega, by omega⟩, ⟨by omega, by omega⟩, fun q4 => ?_, fun q => ?_⟩⟩⟩⟩⟩
  · rw [if_neg (by omega)]
  · rw [if_neg (by omega)]
  · rw [if_neg (by omega)]
  · rw [if_pos ⟨q1, q2, q3, q4⟩]
  · rw [if_neg (by omega)]
def bxM (x : Int) : Int := if x < 0 then lNO else x
theorem C_mttB {w : xW} (hC : CS w) {k a b : Int} (k1 : 1 ≤ k) (k2 : k ≤ 100) (a0 : -1 ≤ a) (a1 : a ≤ 9223372036854775807) (b0 : -1 ≤ b) (b1 : b ≤ 9223372036854775807) : xCall 300 [.int (jI k), .long (jL (bxM a)), .long (jL (bxM b))] w (some (.long (jL (bxM (ttB k a b)))), w) := by
  have d0 : 0 ≤ 9223372036854775807 / k := Int.ediv_nonneg (by decide) (by omega)
  have d1 : 9223372036854775807 / k ≤ 9223372036854775807 := Int.ediv_le_self _ (by decide)
  have hno : ∀ h : ¬ (0 ≤ a ∧ 0 ≤ b ∧ a ≤ 9223372036854775807 - b ∧ a + b ≤ 9223372036854775807 / k), bxM (ttB k a b) = -9223372036854775808 := by
    intro h
    unfold ttB bxM
    rw [if_neg h]; rfl
  by_cases ha : a < 0
  · have e : bxM a = -9223372036854775808 := if_pos ha
    rw [e, hno (by omega)]
    exact Z_300 hC ⟨⟨by decide, by decide⟩, fun _ => rfl, fun q => absurd rfl q⟩
  · have e : bxM a = a := if_neg ha
    rw [e]
    by_cases hb : b < 0
    · have e2 : bxM b = -9223372036854775808 := if_pos hb
      rw [e2, hno (by omega)]
      exact Z_300 hC ⟨⟨by omega, by omega⟩, fun _ => rfl, fun _ => ⟨⟨by decide, by decide⟩, fun q => absurd rfl q, fun _ => rfl⟩⟩
    · have e2 : bxM b = b := if_neg hb
      rw [e2]
      refine Z_300 hC ⟨⟨by omega, by omega⟩, fun q => by omega, fun _ => ⟨⟨by omega, by omega⟩, fun _ => ⟨⟨by omega, by omega⟩, fun q3 => ⟨⟨by omega, by omega⟩, fun q4 => ⟨s32, by omega, _, tdN (by decide), ⟨by omega, by omega⟩, fun q5 => ?_, fun q5 => ?_⟩, fun q4 => ?_⟩, fun q3 => ?_⟩, fun q => by omega⟩⟩
      · have t : ttB k a b = k * (a + b) := if_pos ⟨by omega, by omega, q3, q5⟩
        have m := Int.mul_nonneg (show 0 ≤ k by omega) (show 0 ≤ a + b by omega)
        rw [t, show bxM (k * (a + b)) = k * (a + b) from if_neg (by omega)]
      · rw [hno (by omega)]
      · have t : ttB k a b = k * (a + b) := if_pos ⟨by omega, by omega, q3, by omega⟩
        rw [t, q4, Int.mul_zero]
        rfl
      · rw [hno (by omega)]
section B3
variable {c : Nat} {E : eT} {t : Int} {ws : Nat → Int} {me : memT} {w : xW}
theorem L_177b {n r : Nat} (hn : n ≤ 30) (hr : r + 1 ≤ n) : ∀ (j : Nat) (w : xW), j ≤ r + 1 → CS w → (∀ i, i < 32 → rL w 37 i (if j < i then bx (r + 1) i else bx r i)) →
    ∃ w', CS w' ∧ xsame [37] w w' ∧ (∀ i, i < 32 → rL w' 37 i (bx (r + 1) i)) ∧ ∀ s, xGo 177 17 [some (.ref 0), some (.int (jI (n : Int))), some (.int (jI (((r + 1 : Nat) : Int) + 1))), none] [] w' s → xGo 177 29 [some (.ref 0), some (.int (jI (n : Int))), some (.int (jI ((r + 1 : Nat) : Int))), some (.int (jI (j : Int)))] [] w s := by
  intro j
  induction j with
  | zero =>
    intro w hj hC H
    have sm : xsame [37] w (pL w 37 0 (jL 0)) := sm_pL (by decide)
    refine ⟨pL w 37 0 (jL 0), hC.putL, sm, fun i hi => ?_, fun s g => Z_177_29 hC ⟨s32, fun _ w3 e3 _ => by rw [e3]; exact g, fun q => by omega⟩⟩
    by_cases z : i = 0
    · rw [z]; exact ((kl_37 hC).has (by decide) (by omega)).put
    · have := H i hi
      rw [if_pos (by omega)] at this
      exact this.put z
  | succ j ih =>
    intro w hj hC H
    have a := H (j + 1) (by omega)
    have b := H j (by omega)
    rw [if_neg (by omega)] at a b
    have ba := bx_b r (j + 1)
    have bb := bx_b r j
    have tt := C_ttB hC (k := (j : Int) + 1) (a := bx r (j + 1)) (b := bx r j) (by omega) (by omega) ba.1 ba.2 bb.1 bb.2
    have sm : xsame [37] w (pL w 37 (j + 1) (jL (bx (r + 1) (j + 1)))) := sm_pL (by decide)
    obtain ⟨w', g1, g2, g3, g4⟩ := ih (pL w 37 (j + 1) (jL (bx (r + 1) (j + 1)))) (by omega) hC.putL (fun i hi => by
      by_cases z : i = j + 1
      · rw [z, if_pos (by omega)]; exact ((kl_37 hC).has (by decide) (by omega)).put
      · have := H i hi
        by_cases y : j < i
        · rw [if_pos y]; rw [if_pos (by omega)] at this; exact this.put z
        · rw [if_neg y]; rw [if_neg (by omega)] at this; exact this.put z)
    refine ⟨w', g1, sm.trans g2, g3, fun s g => Z_177_29 hC ⟨s32, fun q => by omega, fun _ => ⟨by omega, _, a, by omega, _, (by rw [show (((j + 1 : Nat) : Int) - 1).toNat = j by omega]; exact b), _, _, tt, hC, ⟨by omega, by omega⟩, fun w17 e17 _ => ?_⟩⟩⟩
    rw [e17, show (((j + 1 : Nat) : Int) - 1) = (j : Int) by omega]
    exact g4 s g
theorem L_177 {n : Nat} (hn : n ≤ 30) : ∀ (k r : Nat) (w : xW), r + k = n → CS w → (∀ i, i < 32 → rL w 37 i (bx r i)) →
    ∃ w', xGo 177 17 [some (.ref 0), some (.int (jI (n : Int))), some (.int (jI ((r : Int) + 1))), none] [] w (none, w') ∧ CS w' ∧ xsame [37] w w' ∧ (∀ i, i < 32 → rL w' 37 i (bx n i)) := by
  intro k
  induction k with
  | zero =>
    intro r w hr hC H
    have e : r = n := by omega
    subst e
    exact ⟨w, Z_177_17 hC ⟨s32, s32, fun _ => rfl, fun q => by omega⟩, hC, xsame.rf, H⟩
  | succ k ih =>
    intro r w hr hC H
    obtain ⟨w1, a1, a2, a3, a4⟩ := L_177b hn (r := r) (by omega) (r + 1) w (by omega) hC (fun i hi => by
      by_cases y : r + 1 < i
      · rw [if_pos y]
        have := H i hi
        rw [bx_0 r i (by omega)] at this
        rw [bx_0 (r + 1) i y]; exact this
      · rw [if_neg y]; exact H i hi)
    obtain ⟨w2, b1, b2, b3, b4⟩ := ih (r + 1) w1 (by omega) a1 a3
    have mi := C_minI (a := (r : Int) + 1) (b := 30) s32 s32 w
    rw [if_neg (by omega)] at mi
    exact ⟨w2, Z_177_17 hC ⟨s32, s32, fun q => by omega, fun _ => ⟨_, _, mi, hC, a4 _ b1⟩⟩, b2, a2.trans b3, b4⟩
theorem C_fillBoxes {w : xW} (hC : CS w) {n : Nat} (hn : n ≤ 30) : ∃ w', xCall 177 [.ref 0, .int (jI (n : Int))] w (none, w') ∧ CS w' ∧ xsame [37] w w' ∧ (∀ i, i < 32 → rL w' 37 i (bx n i)) := by
  obtain ⟨w1, a1, a2, a3, a4⟩ := C_fillR hC
  have sm : xsame [37] w1 (pL w1 37 0 (jL 1)) := sm_pL (by decide)
  obtain ⟨w2, b1, b2, b3, b4⟩ := L_177 hn n 0 (pL w1 37 0 (jL 1)) (by omega) a2.putL (fun i hi => by
    show rL (pL w1 37 0 (jL 1)) 37 i (if i = 0 then 1 else 0)
    by_cases z : i = 0
    · rw [z, if_pos rfl]; exact ((kl_37 a2).has (by decide) (by omega)).put
    · rw [if_neg z]; exact (a4 i (by omega)).put z)
  exact ⟨w2, Z_177 hC ⟨_, a1, a2, fun w5 e5 _ => by rw [e5]; exact b1⟩, b2, a3.trans (sm.trans b3), b4⟩
def onS (n k : Int) : Int := if (0 ≤ n ∧ n ≤ 30) ∧ (0 ≤ k ∧ k ≤ 30) then bxM (bx n.toNat k.toNat) else lNO
theorem c_onto {n k : Int} (hn : in32 n) (hk : in32 k) : cAns E t ws me E t ws me 176 [.int (jI n), .int (jI k)] (.long (jL (onS n k))) := by
  intro w h
  by_cases v : (0 ≤ n ∧ n ≤ 30) ∧ (0 ≤ k ∧ k ≤ 30)
  · obtain ⟨w1, a1, a2, a3, a4⟩ := C_fillBoxes h.1 (n := n.toNat) (by omega)
    rw [Int.toNat_of_nonneg v.1.1] at a1
    have r := a4 k.toNat (by omega)
    have b := bx_b n.toNat k.toNat
    rw [show onS n k = _ from if_pos v]
    refine ⟨w1, Z_176 h.1 ⟨hn, fun q => by omega, fun _ => ⟨fun q => by omega, fun _ => ⟨hk, fun q => by omega, fun _ => ⟨fun _ => ⟨_, a1, a2, v.2.1, _, r, ⟨by omega, by omega⟩, fun q => ⟨v.2.1, _, r, ?_⟩, fun q => ?_⟩, fun q => by omega⟩⟩⟩⟩, h.same a3 (by decide) a2, a3.mono (by decide)⟩
    · rw [show bxM (bx n.toNat k.toNat) = bx n.toNat k.toNat from if_neg (by omega)]
    · rw [show bxM (bx n.toNat k.toNat) = lNO from if_pos q]; rfl
  · rw [show onS n k = lNO from if_neg v]
    exact ⟨w, Z_176 h.1 ⟨hn, fun _ => rfl, fun q1 => ⟨fun _ => rfl, fun q2 => ⟨hk, fun _ => rfl, fun q3 => ⟨fun q4 => absurd ⟨⟨q1, q2⟩, q3, q4⟩ v, fun _ => rfl⟩⟩⟩⟩, h, xsame.rf⟩
/-! the model's -/
theorem L_299a {n : Int} : ∀ (k i : Nat) (w : xW), i + k = 32 → CS w → (∀ j, j < i → rL w 64 j (bxM (bx 0 j))) →
    ∃ w', CS w' ∧ xsame [64] w w' ∧ (∀ j, j < 32 → rL w' 64 j (bxM (bx 0 j))) ∧ ∀ s, xGo 299 31 [some (.ref 39), some (.int (jI n)), some (.int (jI 1)), none] [] w' s → xGo 299 2 [some (.ref 39), some (.int (jI n)), some (.int (jI (i : Int))), none] [] w s := by
  intro k
  induction k with
  | zero =>
    intro i w hi hC H
    exact ⟨w, hC, xsame.rf, fun j hj => H j (by omega), fun s g => Z_299_2 hC ⟨s32, fun _ => g, fun q => by omega⟩⟩
  | succ k ih =>
    intro i w hi hC H
    have sm : xsame [64] w (pL w 64 i (jL (bxM (bx 0 i)))) := sm_pL (by decide)
    obtain ⟨w', g1, g2, g3, g4⟩ := ih (i + 1) (pL w 64 i (jL (bxM (bx 0 i)))) (by omega) hC.putL (fun j hj => by
      by_cases z : j = i
      · rw [z]; exact ((kl_64 hC).has (by decide) (by omega)).put
      · exact (H j (by omega)).put z)
    refine ⟨w', g1, sm.trans g2, g3, fun s g => Z_299_2 hC ⟨s32, fun q => by omega, fun _ => ⟨fun q => ⟨⟨by omega, by omega⟩, fun w4 e4 _ => ?_⟩, fun q => ⟨⟨by omega, by omega⟩, fun w8 e8 _ => ?_⟩⟩⟩⟩
    · have e : bxM (bx 0 i) = 0 := by rw [show bx 0 i = 0 from if_neg (by omega)]; rfl
      rw [e] at g4
      rw [e4]; exact g4 s g
    · have e : bxM (bx 0 i) = 1 := by rw [show bx 0 i = 1 from if_pos (by omega)]; rfl
      rw [e] at g4
      rw [e8]; exact g4 s g
theorem L_299b {n r : Nat} (hn : n ≤ 30) (hr : r + 1 ≤ n) : ∀ (j : Nat) (w : xW), j ≤ r + 1 → CS w → (∀ i, i < 32 → rL w 64 i (bxM (if j < i then bx (r + 1) i else bx r i))) →
    ∃ w', CS w' ∧ xsame [64] w w' ∧ (∀ i, i < 32 → rL w' 64 i (bxM (bx (r + 1) i))) ∧ ∀ s, xGo 299 31 [some (.ref 39), some (.int (jI (n : Int))), some (.int (jI (((r + 1 : Nat) : Int) + 1))), none] [] w' s → xGo 299 38 [some (.ref 39), some (.int (jI (n : Int))), some (.int (jI ((r + 1 : Nat) : Int))), some (.int (jI (j : Int)))] [] w s := by
  intro j
  induction j with
  | zero =>
    intro w hj hC H
    have sm : xsame [64] w (pL w 64 0 (jL 0)) := sm_pL (by decide)
    refine ⟨pL w 64 0 (jL 0), hC.putL, sm, fun i hi => ?_, fun s g => Z_299_38 hC ⟨s32, fun _ w3 e3 _ => by rw [e3]; exact g, fun q => by omega⟩⟩
    by_cases z : i = 0
    · rw [z]
      show rL (pL w 64 0 (jL 0)) 64 0 0
      exact ((kl_64 hC).has (by decide) (by omega)).put
    · have := H i hi
      rw [if_pos (by omega)] at this
      exact this.put z
  | succ j ih =>
    intro w hj hC H
    have a := H (j + 1) (by omega)
    have b := H j (by omega)
    rw [if_neg (by omega)] at a b
    have ba := bx_b r (j + 1)
    have bb := bx_b r j
    have tt := C_mttB hC (k := (j : Int) + 1) (a := bx r (j + 1)) (b := bx r j) (by omega) (by omega) ba.1 ba.2 bb.1 bb.2
    have sm : xsame [64] w (pL w 64 (j + 1) (jL (bxM (bx (r + 1) (j + 1))))) := sm_pL (by decide)
    obtain ⟨w', g1, g2, g3, g4⟩ := ih (pL w 64 (j + 1) (jL (bxM (bx (r + 1) (j + 1))))) (by omega) hC.putL (fun i hi => by
      by_cases z : i = j + 1
      · rw [z, if_pos (by omega)]; exact ((kl_64 hC).has (by decide) (by omega)).put
      · have := H i hi
        by_cases y : j < i
        · rw [if_pos y]; rw [if_pos (by omega)] at this; exact this.put z
        · rw [if_neg y]; rw [if_neg (by omega)] at this; exact this.put z)
    refine ⟨w', g1, sm.trans g2, g3, fun s g => Z_299_38 hC ⟨s32, fun q => by omega, fun _ => ⟨by omega, _, a, by omega, _, (by rw [show (((j + 1 : Nat) : Int) - 1).toNat = j by omega]; exact b), _, _, tt, hC, ⟨by omega, by omega⟩, fun w17 e17 _ => ?_⟩⟩⟩
    rw [e17, show (((j + 1 : Nat) : Int) - 1) = (j : Int) by omega]
    exact g4 s g
theorem L_299 {n : Nat} (hn : n ≤ 30) : ∀ (k r : Nat) (w : xW), r + k = n → CS w → (∀ i, i < 32 → rL w 64 i (bxM (bx r i))) →
    ∃ w', xGo 299 31 [some (.ref 39), some (.int (jI (n : Int))), some (.int (jI ((r : Int) + 1))), none] [] w (none, w') ∧ CS w' ∧ xsame [64] w w' ∧ (∀ i, i < 32 → rL w' 64 i (bxM (bx n i))) := by
  intro k
  induction k with
  | zero =>
    intro r w hr hC H
    have e : r = n := by omega
    subst e
    exact ⟨w, Z_299_31 hC ⟨s32, s32, fun _ => rfl, fun q => by omega⟩, hC, xsame.rf, H⟩
  | succ k ih =>
    intro r w hr hC H
    obtain ⟨w1, a1, a2, a3, a4⟩ := L_299b hn (r := r) (by omega) (r + 1) w (by omega) hC (fun i hi => by
      by_cases y : r + 1 < i
      · rw [if_pos y]
        have := H i hi
        rw [bx_0 r i (by omega)] at this
        rw [bx_0 (r + 1) i y]; exact this
      · rw [if_neg y]; exact H i hi)
    obtain ⟨w2, b1, b2, b3, b4⟩ := ih (r + 1) w1 (by omega) a1 a3
    exact ⟨w2, Z_299_31 hC ⟨s32, s32, fun q => by omega, fun _ => a4 _ b1⟩, b2, a2.trans b3, b4⟩
theorem C_laysBoxes {w : xW} (hC : CS w) {n : Nat} (hn : n ≤ 30) : ∃ w', xCall 299 [.ref 39, .int (jI (n : Int))] w (none, w') ∧ CS w' ∧ xsame [64] w w' ∧ (∀ i, i < 32 → rL w' 64 i (bxM (bx n i))) := by
  obtain ⟨w1, a1, a2, a3, a4⟩ := L_299a (n := (n : Int)) 32 0 w rfl hC (fun j hj => by omega)
  obtain ⟨w2, b1, b2, b3, b4⟩ := L_299 hn n 0 w1 (by omega) a1 a3
  exact ⟨w2, Z_299 hC (a4 _ b1), b2, a2.trans b3, b4⟩
theorem m_onto {n k : Int} (hn : in32 n) (hk : in32 k) : mAns E t ws me E t ws me 298 [.int (jI n), .int (jI k)] (.long (jL (onS n k))) := by
  intro w h0
  have h := h0.p0 (v := jI 0)
  have s0 : xsame mAll w (pF w 39 0 (.int (jI 0))) := sm_pF (by decide)
  by_cases v : (0 ≤ n ∧ n ≤ 30) ∧ (0 ≤ k ∧ k ≤ 30)
  · obtain ⟨w1, a1, a2, a3, a4⟩ := C_laysBoxes h.1 (n := n.toNat) (by omega)
    rw [Int.toNat_of_nonneg v.1.1] at a1
    rw [show onS n k = _ from if_pos v]
    refine ⟨w1, Z_298 h0.1 (fun w3 e _ => ?_), h.same1 a3 a2, s0.trans (a3.mono (by decide))⟩
    subst e
    exact ⟨_, _, _, C_isIn hn s32 s32 _, h.1, fun q => absurd v.1 q, fun _ => ⟨_, _, _, C_isIn hk s32 s32 _, h.1, fun _ => ⟨_, a1, a2, v.2.1, _, a4 k.toNat (by omega), rfl⟩, fun q => absurd v.2 q⟩⟩
  · rw [show onS n k = lNO from if_neg v]
    refine ⟨_, Z_298 h0.1 (fun w3 e _ => ?_), h, s0⟩
    subst e
    exact ⟨_, _, _, C_isIn hn s32 s32 _, h.1, fun _ => rfl, fun q1 => ⟨_, _, _, C_isIn hk s32 s32 _, h.1, fun q2 => absurd ⟨q1, q2⟩ v, fun _ => rfl⟩⟩
end B3
