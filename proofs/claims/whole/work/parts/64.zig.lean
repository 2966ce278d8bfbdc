/-! the calls byBoxes and zigzag -/
section Z6
variable {c : Nat} {E : eT} {t : Int} {ws : Nat → Int} {me : memT} {w : xW}
abbrev uB : Int := 232792560
def bbD (n k : Nat) : Int := bx n k / ((k : Int) + 1) * uB + bx n k % ((k : Int) + 1) * (uB / ((k : Int) + 1))
def bbT (n : Nat) : Nat → Int
  | 0 => 0
  | k + 1 => bbT n k + (if k % 2 = 0 then 1 else -1) * bbD n k
def bbR (n : Nat) (x : Int) : Nat → Nat → Int
  | 0, k => frX (frE (bbT n k) uB) x
  | f + 1, k => if bx n k < 0 then lNO else bbR n x f (k + 1)
def bbS (n x : Int) : Int := if (0 ≤ n ∧ n ≤ 20) ∧ (0 ≤ x ∧ x ≤ 2) then bbR n.toNat x (n.toNat + 1) 0 else lNO
theorem uB_d : ∀ k : Nat, k < 21 → ((k : Int) + 1) ∣ uB := by decide +kernel
theorem L_179 {n : Nat} {x : Int} (hn : n ≤ 20) (hx : 0 ≤ x ∧ x ≤ 2) : ∀ (f k : Nat) (w : xW), k + f = n + 1 → CS w → tot w uB (bbT n k) → (∀ i, i < 32 → rL w 37 i (bx n i)) →
    ∃ w', xGo 179 38 [some (.ref 0), some (.int (jI (n : Int))), some (.int (jI x)), some (.int (jI (k : Int))), none] [] w (some (.long (jL (bbR n x f k))), w') ∧ CS w' ∧ xsame [3, 36] w w' := by
  intro f
  induction f with
  | zero =>
    intro k w hk hC hT H
    have tl := C_tell hC hT (by decide) (by decide)
    have m0 := Int.emod_nonneg (bbT n k) (show uB ≠ 0 by decide)
    have m1 := Int.emod_lt_of_pos (bbT n k) (show 0 < uB by decide)
    obtain ⟨p1, p2⟩ := nf_pr m0 m1
    rw [p1, p2] at tl
    have f := fw hC (frE (bbT n k) uB).1 (frE (bbT n k) uB).2.1 (frE (bbT n k) uB).2.2
    exact ⟨_, Z_179_38 hC ⟨s32, s32, fun _ => ⟨_, tl, f.1, _, _, td36 hx f.2.1, f.1, rfl⟩, fun q => by omega⟩, f.1, f.2.2.mono (by decide)⟩
  | succ f ih =>
    intro k w hk hC hT H
    have r := H k (by omega)
    have b := bx_b n k
    have e : bbR n x (f + 1) k = if bx n k < 0 then lNO else bbR n x f (k + 1) := rfl
    rw [e]
    by_cases q : bx n k < 0
    · rw [if_pos q]
      exact ⟨w, Z_179_38 hC ⟨s32, s32, fun z => by omega, fun _ => ⟨by omega, _, r, ⟨by omega, by omega⟩, fun z => by omega, fun _ => rfl⟩⟩, hC, xsame.rf⟩
    · rw [if_neg q]
      have m0 := Int.emod_nonneg (bx n k) (show (k : Int) + 1 ≠ 0 by omega)
      have m1 := Int.emod_lt_of_pos (bx n k) (show 0 < (k : Int) + 1 by omega)
      have eT : bbT n (k + 1) = bbT n k + (if k % 2 = 0 then 1 else -1) * bbD n k := rfl
      by_cases par : k % 2 = 0
      · rw [if_pos par] at eT
        obtain ⟨w1, a1, a2, a3, a4⟩ := C_add hC (f := 1) (x := bx n k / ((k : Int) + 1)) (a := bx n k % ((k : Int) + 1)) (b := (k : Int) + 1) hT (by decide) (by decide) (by omega) (uB_d k (by omega)) ⟨by omega, by omega⟩
        obtain ⟨w2, b1, b2, b3⟩ := ih (k + 1) w1 (by omega) a2 (by rw [eT]; exact a4) (fun i hi => (H i hi).sm a3 (by decide))
        exact ⟨w2, Z_179_38 hC ⟨s32, s32, fun z => by omega, fun _ => ⟨by omega, _, r, ⟨by omega, by omega⟩, fun _ => ⟨_, tmN (by omega), s32, fun z => by omega, fun _ => ⟨by omega, _, r, s32, ⟨by omega, by omega⟩, by omega, _, tdN (by omega), by omega, _, r, ⟨by omega, by omega⟩, by omega, _, tmN (by omega), _, a1, a2, b1⟩⟩, fun z => by omega⟩⟩, b2, (a3.mono (by decide)).trans b3⟩
      · rw [if_neg par] at eT
        obtain ⟨w1, a1, a2, a3, a4⟩ := C_add hC (f := -1) (x := bx n k / ((k : Int) + 1)) (a := bx n k % ((k : Int) + 1)) (b := (k : Int) + 1) hT (by decide) (by decide) (by omega) (uB_d k (by omega)) ⟨by omega, by omega⟩
        obtain ⟨w2, b1, b2, b3⟩ := ih (k + 1) w1 (by omega) a2 (by rw [eT]; exact a4) (fun i hi => (H i hi).sm a3 (by decide))
        exact ⟨w2, Z_179_38 hC ⟨s32, s32, fun z => by omega, fun _ => ⟨by omega, _, r, ⟨by omega, by omega⟩, fun _ => ⟨_, tmN (by omega), s32, fun _ => ⟨by omega, _, r, s32, ⟨by omega, by omega⟩, by omega, _, tdN (by omega), by omega, _, r, ⟨by omega, by omega⟩, by omega, _, tmN (by omega), _, a1, a2, b1⟩, fun z => by omega⟩, fun z => by omega⟩⟩, b2, (a3.mono (by decide)).trans b3⟩
theorem c_byBoxes {n x : Int} (hn : in32 n) (hx : in32 x) : cAns E t ws me E t ws me 179 [.int (jI n), .int (jI x)] (.long (jL (bbS n x))) := by
  intro w h
  by_cases v : (0 ≤ n ∧ n ≤ 20) ∧ (0 ≤ x ∧ x ≤ 2)
  · obtain ⟨w1, a1, a2, a3, a4⟩ := C_fillBoxes h.1 (n := n.toNat) (by omega)
    obtain ⟨w2, b1, b2, b3, b4⟩ := C_begin a2 (z := 232792560) (by decide) s64
    obtain ⟨w3, d1, d2, d3⟩ := L_179 (n := n.toNat) (by omega) v.2 (n.toNat + 1) 0 w2 (by omega) b2 b4 (fun i hi => (a4 i hi).sm b3 (by decide))
    rw [Int.toNat_of_nonneg v.1.1] at a1 d1
    rw [show bbS n x = _ from if_pos v]
    have sm : xsame [3, 36, 37] w w3 := (a3.mono (by decide)).trans ((b3.mono (by decide)).trans (d3.mono (by decide)))
    exact ⟨w3, Z_179 h.1 ⟨hn, fun q => by omega, fun _ => ⟨fun q => by omega, fun _ => ⟨_, _, _, C_isPart hx w, h.1, fun _ => ⟨_, a1, a2, _, b1, b2, d1⟩, fun q => absurd v.2 q⟩⟩⟩, h.same sm (by decide) d2, sm.mono (by decide)⟩
  · rw [show bbS n x = lNO from if_neg v]
    exact ⟨w, Z_179 h.1 ⟨hn, fun _ => rfl, fun q1 => ⟨fun _ => rfl, fun q2 => ⟨_, _, _, C_isPart hx w, h.1, fun q3 => absurd ⟨⟨q1, q2⟩, q3⟩ v, fun _ => rfl⟩⟩⟩, h, xsame.rf⟩
theorem L_301 {w : xW} (hC : CS w) {n : Nat} {x : Int} (hn : n ≤ 20) (hx : 0 ≤ x ∧ x ≤ 2) (H : ∀ i, i < 32 → rL w 64 i (bxM (bx n i))) : ∀ (f k : Nat) (W R : Int), k + f = n + 1 → W * uB + R = bbT n k → -(232792560 * (k : Int)) ≤ R → R ≤ 232792560 * (k : Int) →
    ∃ w', xGo 301 41 [some (.ref 39), some (.int (jI (n : Int))), some (.int (jI x)), some (.long (jL W)), none, some (.long (jL R)), none, some (.int (jI (k : Int))), none, none, none, none] [] w (some (.long (jL (bbR n x f k))), w') ∧ CS w' ∧ xsame [62] w w' := by
  intro f
  induction f with
  | zero =>
    intro k W R hk hT r0 r1
    have dm := dm_e R uB
    have m0 := Int.emod_nonneg R (show uB ≠ 0 by decide)
    have m1 := Int.emod_lt_of_pos R (show 0 < uB by decide)
    have eR : R - R / uB * uB = R % uB := by omega
    have lp := lp62 hC (x := W + R / uB) m0 m1 (by decide)
    have eN : (W + R / uB) * uB + R % uB = bbT n k := by rw [← hT, Int.add_mul]; omega
    rw [eN, ← eR] at lp
    have rd := rd62 hC (e := frE (bbT n k) uB) hx
    have c3 := l3_C hC (a := 62) (n := 0) (x := (frE (bbT n k) uB).1) (y := (frE (bbT n k) uB).2.1) (z := (frE (bbT n k) uB).2.2)
    exact ⟨_, Z_301_41 hC ⟨s32, s32, fun _ => ⟨_, _, C_downBy (a := R) (b := 232792560) ⟨by omega, by omega⟩ s64 (by decide) w hC, hC, _, lp, c3, hx.1, _, rd, rfl⟩, fun q => by omega⟩, c3, l3_sm⟩
  | succ f ih =>
    intro k W R hk hT r0 r1
    have r := H k (by omega)
    have b := bx_b n k
    have e : bbR n x (f + 1) k = if bx n k < 0 then lNO else bbR n x f (k + 1) := rfl
    rw [e]
    by_cases q : bx n k < 0
    · rw [if_pos q]
      rw [show bxM (bx n k) = -9223372036854775808 from if_pos q] at r
      exact ⟨w, Z_301_41 hC ⟨s32, s32, fun z => by omega, fun _ => ⟨by omega, _, r, ⟨by decide, by decide⟩, fun z => absurd rfl z, fun _ => rfl⟩⟩, hC, xsame.rf⟩
    · rw [if_neg q]
      rw [show bxM (bx n k) = bx n k from if_neg q] at r
      have m0 := Int.emod_nonneg (bx n k) (show (k : Int) + 1 ≠ 0 by omega)
      have m1 := Int.emod_lt_of_pos (bx n k) (show 0 < (k : Int) + 1 by omega)
      have tp := tv_part (a := bx n k % ((k : Int) + 1)) (b := (k : Int) + 1) (U := uB) (by decide) m0 m1 (uB_d k (by omega))
      have tp2 : bx n k % ((k : Int) + 1) * (uB / ((k : Int) + 1)) < 232792560 := tp.2
      have eT : bbT n (k + 1) = bbT n k + (if k % 2 = 0 then 1 else -1) * bbD n k := rfl
      unfold bbD at eT
      by_cases par : k % 2 = 0
      · rw [if_pos par, Int.one_mul] at eT
        obtain ⟨w2, b1, b2, b3⟩ := ih (k + 1) (W + bx n k / ((k : Int) + 1)) (R + bx n k % ((k : Int) + 1) * (uB / ((k : Int) + 1))) (by omega) (by rw [eT, ← hT, Int.add_mul]; omega) (by omega) (by omega)
        exact ⟨w2, Z_301_41 hC ⟨s32, s32, fun z => by omega, fun _ => ⟨by omega, _, r, ⟨by omega, by omega⟩, fun _ => ⟨by omega, _, r, s32, ⟨by omega, by omega⟩, by omega, _, tdN (by omega), by omega, _, r, ⟨by omega, by omega⟩, by omega, _, tmN (by omega), by omega, _, tdN (by decide), _, tmN (by omega), s32, fun z => by omega, fun _ => ⟨_, tmN (by omega), s32, fun z => by omega, fun _ => b1⟩⟩, fun z => by omega⟩⟩, b2, b3⟩
      · rw [if_neg par, Int.neg_mul, Int.one_mul] at eT
        obtain ⟨w2, b1, b2, b3⟩ := ih (k + 1) (W + -(bx n k / ((k : Int) + 1))) (R + -(bx n k % ((k : Int) + 1) * (uB / ((k : Int) + 1)))) (by omega) (by rw [eT, ← hT, Int.add_mul, Int.neg_mul]; omega) (by omega) (by omega)
        exact ⟨w2, Z_301_41 hC ⟨s32, s32, fun z => by omega, fun _ => ⟨by omega, _, r, ⟨by omega, by omega⟩, fun _ => ⟨by omega, _, r, s32, ⟨by omega, by omega⟩, by omega, _, tdN (by omega), by omega, _, r, ⟨by omega, by omega⟩, by omega, _, tmN (by omega), by omega, _, tdN (by decide), _, tmN (by omega), s32, fun _ => ⟨_, tmN (by omega), s32, fun _ => b1, fun z => by omega⟩, fun z => by omega⟩, fun z => by omega⟩⟩, b2, b3⟩
theorem m_byBoxes {n x : Int} (hn : in32 n) (hx : in32 x) : mAns E t ws me E t ws me 301 [.int (jI n), .int (jI x)] (.long (jL (bbS n x))) := by
  intro w h0
  have h := h0.p0 (v := jI 0)
  have s0 : xsame mAll w (pF w 39 0 (.int (jI 0))) := sm_pF (by decide)
  by_cases v : (0 ≤ n ∧ n ≤ 20) ∧ (0 ≤ x ∧ x ≤ 2)
  · obtain ⟨w1, a1, a2, a3, a4⟩ := C_laysBoxes h.1 (n := n.toNat) (by omega)
    obtain ⟨w3, d1, d2, d3⟩ := L_301 a2 (n := n.toNat) (by omega) v.2 a4 (n.toNat + 1) 0 0 0 (by omega) rfl (by decide) (by decide)
    rw [Int.toNat_of_nonneg v.1.1] at a1 d1
    rw [show bbS n x = _ from if_pos v]
    have sm : xsame [62, 64] (pF w 39 0 (.int (jI 0))) w3 := (a3.mono (by decide)).trans (d3.mono (by decide))
    refine ⟨w3, Z_301 h0.1 (fun w3 e _ => ?_), h.same1 sm d2, s0.trans (sm.mono (by decide))⟩
    subst e
    exact ⟨_, _, _, C_isIn hn s32 s32 _, h.1, fun q => absurd v.1 q, fun _ => ⟨_, _, _, C_isIn hx s32 s32 _, h.1, fun _ => ⟨_, a1, a2, d1⟩, fun q => absurd v.2 q⟩⟩
  · rw [show bbS n x = lNO from if_neg v]
    refine ⟨_, Z_301 h0.1 (fun w3 e _ => ?_), h, s0⟩
    subst e
    exact ⟨_, _, _, C_isIn hn s32 s32 _, h.1, fun _ => rfl, fun q1 => ⟨_, _, _, C_isIn hx s32 s32 _, h.1, fun q2 => absurd ⟨q1, q2⟩ v, fun _ => rfl⟩⟩
/-! zigzag -/
def zgN (prev : Nat → Int) (r : Nat) : Nat → Int
  | 0 => 0
  | k + 1 => zgN prev r k + prev (r - k)
def zg : Nat → Nat → Int
  | 0 => fun _ => 1
  | r + 1 => zgN (zg r) r
def zzS (n : Int) : Int := if 0 ≤ n ∧ n ≤ 23 then zg n.toNat n.toNat else lNO
theorem L_302a {n : Int} {r : Nat} (hr : r + 1 ≤ 23) : ∀ (k i : Nat) (w : xW), i + k = r + 1 → CS w → (∀ j, j ≤ r → rL w 66 j (zg r j)) → (∀ j, j ≤ i → rL w 65 j (zg (r + 1) j)) →
    ∃ w', CS w' ∧ xsame [65] w w' ∧ (∀ j, j ≤ r + 1 → rL w' 65 j (zg (r + 1) j)) ∧ ∀ s, xGo 302 78 [some (.ref 39), some (.int (jI n)), some (.int (jI ((r + 1 : Nat) : Int))), some (.int (jI 0))] [] w' s → xGo 302 42 [some (.ref 39), some (.int (jI n)), some (.int (jI ((r + 1 : Nat) : Int))), some (.int (jI ((i : Int) + 1)))] [] w s := by
  intro k
  induction k with
  | zero =>
    intro i w hi hC H1 H2
    exact ⟨w, hC, xsame.rf, fun j hj => H2 j (by omega), fun s g => Z_302_42 hC ⟨s32, s32, fun _ => g, fun q => by omega⟩⟩
  | succ k ih =>
    intro i w hi hC H1 H2
    have sm : xsame [65] w (pL w 65 (i + 1) (jL (zg (r + 1) (i + 1)))) := sm_pL (by decide)
    obtain ⟨w', g1, g2, g3, g4⟩ := ih (i + 1) (pL w 65 (i + 1) (jL (zg (r + 1) (i + 1)))) (by omega) hC.putL (fun j hj => (H1 j hj).sm sm (by decide)) (fun j hj => by
      by_cases z : j = i + 1
      · rw [z]; exact ((kl_65 hC).has (by decide) (by omega)).put
      · exact (H2 j (by omega)).put z)
    refine ⟨w', g1, sm.trans g2, g3, fun s g => Z_302_42 hC ⟨s32, s32, fun q => by omega, fun _ => ⟨by omega, _, (by rw [show ((i : Int) + 1 - 1).toNat = i by omega]; exact H2 i (by omega)), by omega, _, (by rw [show (((r + 1 : Nat) : Int) - ((i : Int) + 1)).toNat = r - i by omega]; exact H1 (r - i) (by omega)), ⟨by omega, by omega⟩, fun w11 e11 _ => ?_⟩⟩⟩
    rw [e11]
    exact g4 s g
theorem L_302b {n : Int} {r : Nat} (hr : r ≤ 23) : ∀ (k i : Nat) (w : xW), i + k = r + 1 → CS w → (∀ j, j ≤ r → rL w 65 j (zg r j)) → (∀ j, j < i → rL w 66 j (zg r j)) →
    ∃ w', CS w' ∧ xsame [66] w w' ∧ (∀ j, j ≤ r → rL w' 66 j (zg r j)) ∧ ∀ s, xGo 302 28 [some (.ref 39), some (.int (jI n)), some (.int (jI ((r : Int) + 1))), none] [] w' s → xGo 302 78 [some (.ref 39), some (.int (jI n)), some (.int (jI (r : Int))), some (.int (jI (i : Int)))] [] w s := by
  intro k
  induction k with
  | zero =>
    intro i w hi hC H1 H2
    exact ⟨w, hC, xsame.rf, fun j hj => H2 j (by omega), fun s g => Z_302_78 hC ⟨s32, s32, fun _ => g, fun q => by omega⟩⟩
  | succ k ih =>
    intro i w hi hC H1 H2
    have sm : xsame [66] w (pL w 66 i (jL (zg r i))) := sm_pL (by decide)
    obtain ⟨w', g1, g2, g3, g4⟩ := ih (i + 1) (pL w 66 i (jL (zg r i))) (by omega) hC.putL (fun j hj => (H1 j hj).sm sm (by decide)) (fun j hj => by
      by_cases z : j = i
      · rw [z]; exact ((kl_66 hC).has (by decide) (by omega)).put
      · exact (H2 j (by omega)).put z)
    refine ⟨w', g1, sm.trans g2, g3, fun s g => Z_302_78 hC ⟨s32, s32, fun q => by omega, fun _ => ⟨by omega, _, H1 i (by omega), ⟨by omega, by omega⟩, fun w8 e8 _ => ?_⟩⟩⟩
    rw [e8]
    exact g4 s g
theorem L_302 {n : Nat} (hn : n ≤ 23) : ∀ (k r : Nat) (w : xW), r + k = n → CS w → (∀ j, j ≤ r → rL w 66 j (zg r j)) →
    ∃ w', xGo 302 28 [some (.ref 39), some (.int (jI (n : Int))), some (.int (jI ((r : Int) + 1))), none] [] w (some (.long (jL (zg n n))), w') ∧ CS w' ∧ xsame [65, 66] w w' := by
  intro k
  induction k with
  | zero =>
    intro r w hr hC H
    have e : r = n := by omega
    subst e
    exact ⟨w, Z_302_28 hC ⟨s32, s32, fun _ => ⟨by omega, _, H r (Nat.le_refl r), rfl⟩, fun q => by omega⟩, hC, xsame.rf⟩
  | succ k ih =>
    intro r w hr hC H
    have sm : xsame [65] w (pL w 65 0 (jL 0)) := sm_pL (by decide)
    obtain ⟨w1, a1, a2, a3, a4⟩ := L_302a (n := (n : Int)) (r := r) (by omega) (r + 1) 0 (pL w 65 0 (jL 0)) (by omega) hC.putL (fun j hj => (H j hj).sm sm (by decide)) (fun j hj => by
      rw [show j = 0 by omega]
      exact ((kl_65 hC).has (by decide) (by omega)).put)
    obtain ⟨w2, b1, b2, b3, b4⟩ := L_302b (n := (n : Int)) (r := r + 1) (by omega) (r + 2) 0 w1 (by omega) a1 a3 (fun j hj => by omega)
    obtain ⟨w3, d1, d2, d3⟩ := ih (r + 1) w2 (by omega) b1 b3
    refine ⟨w3, Z_302_28 hC ⟨s32, s32, fun q => by omega, fun _ w7 e7 _ => ?_⟩, d2, (sm.mono (by decide)).trans ((a2.mono (by decide)).trans ((b2.mono (by decide)).trans d3))⟩
    rw [e7]
    exact a4 _ (b4 _ d1)
theorem m_zigzag {n : Int} (hn : in32 n) : mAns E t ws me E t ws me 302 [.int (jI n)] (.long (jL (zzS n))) := by
  intro w h0
  have h := h0.p0 (v := jI 0)
  have s0 : xsame mAll w (pF w 39 0 (.int (jI 0))) := sm_pF (by decide)
  by_cases v : 0 ≤ n ∧ n ≤ 23
  · have sm1 : xsame [66] (pF w 39 0 (.int (jI 0))) (pL (pF w 39 0 (.int (jI 0))) 66 0 (jL 1)) := sm_pL (by decide)
    obtain ⟨w3, d1, d2, d3⟩ := L_302 (n := n.toNat) (by omega) n.toNat 0 (pL (pF w 39 0 (.int (jI 0))) 66 0 (jL 1)) (by omega) h.1.putL (fun j hj => by
      rw [show j = 0 by omega]
      exact ((kl_66 h.1).has (by decide) (by omega)).put)
    rw [Int.toNat_of_nonneg v.1] at d1
    rw [show zzS n = _ from if_pos v]
    have sm : xsame [65, 66] (pF w 39 0 (.int (jI 0))) w3 := (sm1.mono (by decide)).trans d3
    refine ⟨w3, Z_302 h0.1 (fun w3 e _ => ?_), h.same1 sm d2, s0.trans (sm.mono (by decide))⟩
    subst e
    exact ⟨_, _, _, C_isIn hn s32 s32 _, h.1, fun _ w10 e10 _ => by rw [e10]; exact d1, fun q => absurd v q⟩
  · rw [show zzS n = lNO from if_neg v]
    refine ⟨_, Z_302 h0.1 (fun w3 e _ => ?_), h, s0⟩
    subst e
    exact ⟨_, _, _, C_isIn hn s32 s32 _, h.1, fun q => absurd q v, fun _ => rfl⟩
/-! the class's -/
theorem cpyn {f g : Nat → Int64} {j m : Nat} (hj : j < m) : va_cpy f g 0 0 m j = f j := by
  unfold va_cpy
  rw [if_pos (by omega)]
  congr 1
  omega
theorem L_180a (h0 : cst E t ws me w) {n r : Nat} (hn : n ≤ 23) (hr : r + 1 ≤ 23) : ∀ (k i : Nat) (w : xW), i + k = r + 1 → cst E t ws me w → (∀ j, j ≤ r → rL w 38 j (zg r j)) → (∀ j, j ≤ i → rL w 37 j (zg (r + 1) j)) →
    ∃ w', cst E t ws me w' ∧ xsame [37] w w' ∧ (∀ j, j ≤ r + 1 → rL w' 37 j (zg (r + 1) j)) ∧ ∀ s, xGo 180 23 [some (.ref 0), some (.int (jI (n : Int))), some (.int (jI (((r + 1 : Nat) : Int) + 1))), none] [] w' s → xGo 180 51 [some (.ref 0), some (.int (jI (n : Int))), some (.int (jI ((r + 1 : Nat) : Int))), some (.int (jI ((i : Int) + 1)))] [] w s := by
  intro k
  induction k with
  | zero =>
    intro i w hi h H1 H2
    refine ⟨w, h, xsame.rf, fun j hj => H2 j (by omega), fun s g => S_180_51 ⟨fun _ v1 e1 => ?_, fun q => absurd ((jI_lt s32 s32).mpr (by omega)) q⟩⟩
    rw [e1, show (1 : Int32) = jI 1 from rfl, jI_add]
    exact g
  | succ k ih =>
    intro i w hi h H1 H2
    obtain ⟨f, hf⟩ := kl_37 h.1
    obtain ⟨g, hg⟩ := kl_38 h.1
    have sm : xsame [37] w (pL w 37 (i + 1) (jL (zg (r + 1) (i + 1)))) := sm_pL (by decide)
    have h2 : cst E t ws me (pL w 37 (i + 1) (jL (zg (r + 1) (i + 1)))) := h.same sm (by decide) h.1.putL
    obtain ⟨w', g1, g2, g3, g4⟩ := ih (i + 1) (pL w 37 (i + 1) (jL (zg (r + 1) (i + 1)))) (by omega) h2 (fun j hj => (H1 j hj).sm sm (by decide)) (fun j hj => by
      by_cases z : j = i + 1
      · rw [z]; exact ((kl_37 h.1).has (by decide) (by omega)).put
      · exact (H2 j (by omega)).put z)
    have e1 : jI ((i : Int) + 1) - (1 : Int32) = jI ((i : Nat) : Int) := by rw [show (1 : Int32) = jI 1 from rfl, jI_sub, show (i : Int) + 1 - 1 = (i : Int) by omega]
    have e2 : jI ((r + 1 : Nat) : Int) - jI ((i : Int) + 1) = jI ((r - i : Nat) : Int) := by rw [jI_sub, show ((r + 1 : Nat) : Int) - ((i : Int) + 1) = ((r - i : Nat) : Int) by omega]
    have e3 : jI ((i : Int) + 1) = jI ((i + 1 : Nat) : Int) := rfl
    have v1 := (H2 i (by omega)).val hf
    have v2 := (H1 (r - i) (by omega)).val hg
    refine ⟨w', g1, sm.trans g2, g3, fun s g' => S_180_51 ⟨fun q => absurd q (fun z => by have := (jI_lt (a := ((r + 1 : Nat) : Int)) (b := (i : Int) + 1) s32 s32).mp z; omega), fun _ => ⟨_, h.2.1, _, rfl, _, _, hf, by rw [e1]; exact ixin (by omega) (by decide), _, rfl, _, _, hg, by rw [e2]; exact ixin (by omega) (by decide), fun v16 e16 => ⟨by rw [e3]; exact ixin (by omega) (by decide), fun w18 e18 v19 e19 => ?_⟩⟩⟩⟩
    rw [e1, e2, ixn (by omega), ixn (by omega), v1, v2, jL_add] at e16
    rw [e3, ixn (by omega), e16] at e18
    have e : List.set w 37 (aL 40 (vp_updL f (i + 1) (jL (zg (r + 1) i + zg r (r - i))))) = pL w 37 (i + 1) (jL (zg (r + 1) (i + 1))) := (pL_of hf).symm
    rw [e18, e19, show (1 : Int32) = jI 1 from rfl, jI_add]
    show xGo 180 51 _ [] (List.set w 37 (aL 40 (vp_updL f (i + 1) (jL (zg (r + 1) i + zg r (r - i)))))) s
    rw [e]
    exact g4 s g'
theorem L_180 (h0 : cst E t ws me w) {n : Nat} (hn : n ≤ 23) : ∀ (k r : Nat) (w : xW), r + k = n → cst E t ws me w → (∀ j, j ≤ r → rL w 37 j (zg r j)) →
    ∃ w', xGo 180 23 [some (.ref 0), some (.int (jI (n : Int))), some (.int (jI ((r : Int) + 1))), none] [] w (some (.long (jL (zg n n))), w') ∧ cst E t ws me w' ∧ xsame [37, 38] w w' := by
  intro k
  induction k with
  | zero =>
    intro r w hr h H
    have e : r = n := by omega
    subst e
    obtain ⟨f, hf⟩ := kl_37 h.1
    have v1 := (H r (Nat.le_refl r)).val hf
    refine ⟨w, S_180_23 ⟨fun _ => ⟨_, h.2.1, _, rfl, _, _, hf, ixin (by omega) (by decide), ?_⟩, fun q => absurd ((jI_lt s32 s32).mpr (by omega)) q⟩, h, xsame.rf⟩
    rw [ixn (by omega), v1]
  | succ k ih =>
    intro r w hr h H
    obtain ⟨f, hf⟩ := kl_37 h.1
    obtain ⟨g, hg⟩ := kl_38 h.1
    have e3 : jI ((r : Int) + 1) = jI ((r + 1 : Nat) : Int) := rfl
    have nlt : ¬ jI (n : Int) < jI ((r : Int) + 1) := fun z => by have := (jI_lt (a := (n : Int)) (b := (r : Int) + 1) s32 s32).mp z; omega
    have sm1 : xsame [38] w (w.set 38 (aL 40 (va_cpy f g 0 0 (r + 1)))) := xsame.set (by decide)
    have h1 : cst E t ws me (w.set 38 (aL 40 (va_cpy f g 0 0 (r + 1)))) := h.same sm1 (by decide) (h.1.set ⟨_, rfl⟩)
    have hf1 : (w.set 38 (aL 40 (va_cpy f g 0 0 (r + 1))))[37]? = some (aL 40 f) := (set_ne (by decide)).trans hf
    have H38 : ∀ j, j ≤ r → rL (w.set 38 (aL 40 (va_cpy f g 0 0 (r + 1)))) 38 j (zg r j) := fun j hj => rL_of (n := 40) (set_get hg) (by decide) (by omega) (by rw [cpyn (by omega)]; exact (H j hj).val hf)
    have sm2 : xsame [37] (w.set 38 (aL 40 (va_cpy f g 0 0 (r + 1)))) (pL (w.set 38 (aL 40 (va_cpy f g 0 0 (r + 1)))) 37 0 (jL 0)) := sm_pL (by decide)
    have h2 : cst E t ws me (pL (w.set 38 (aL 40 (va_cpy f g 0 0 (r + 1)))) 37 0 (jL 0)) := h1.same sm2 (by decide) h1.1.putL
    obtain ⟨w3, a1, a2, a3, a4⟩ := L_180a h0 (n := n) (r := r) hn (by omega) (r + 1) 0 _ (by omega) h2 (fun j hj => (H38 j hj).sm sm2 (by decide)) (fun j hj => by
      rw [show j = 0 by omega]
      exact ((kl_37 h1.1).has (by decide) (by omega)).put)
    obtain ⟨w4, d1, d2, d3⟩ := ih (r + 1) w3 (by omega) a1 a3
    refine ⟨w4, S_180_23 ⟨fun z => absurd z nlt, fun _ => ⟨_, h.2.1, _, rfl, _, rfl, _, _, hf, _, _, hg, ⟨fun z => ?_, by decide, by decide⟩, ?_, fun w23 e23 => ?_⟩⟩, d2, (sm1.mono (by decide)).trans ((sm2.mono (by decide)).trans ((a2.mono (by decide)).trans d3))⟩
    · have := (jI_lt (a := (r : Int) + 1) (b := 0) s32 z32).mp z; omega
    · rw [e3, ixn (by omega)]
      constructor
      · show 0 + (r + 1) ≤ 40; omega
      · show 0 + (r + 1) ≤ 40; omega
    · rw [e3, ixn (by omega)] at e23
      have e24 : w23 = w.set 38 (aL 40 (va_cpy f g 0 0 (r + 1))) := e23
      rw [e24]
      refine ⟨_, h1.2.1, _, rfl, _, _, hf1, by decide, fun w32 e32 => ?_⟩
      have e33 : w32 = pL (w.set 38 (aL 40 (va_cpy f g 0 0 (r + 1)))) 37 0 (jL 0) := e32.trans (pL_of hf1).symm
      rw [e33, e3]
      exact a4 _ d1
theorem c_zigzag {n : Int} (hn : in32 n) : cAns E t ws me E t ws me 180 [.int (jI n)] (.long (jL (zzS n))) := by
  intro w h
  by_cases v : 0 ≤ n ∧ n ≤ 23
  · rw [show zzS n = _ from if_pos v]
    obtain ⟨f, hf⟩ := kl_37 h.1
    have sm1 : xsame [37] w (pL w 37 0 (jL 1)) := sm_pL (by decide)
    have h1 : cst E t ws me (pL w 37 0 (jL 1)) := h.same sm1 (by decide) h.1.putL
    obtain ⟨w3, d1, d2, d3⟩ := L_180 h (n := n.toNat) (by omega) n.toNat 0 (pL w 37 0 (jL 1)) (by omega) h1 (fun j hj => by
      rw [show j = 0 by omega]
      exact ((kl_37 h.1).has (by decide) (by omega)).put)
    rw [Int.toNat_of_nonneg v.1] at d1
    refine ⟨w3, E_180 (S_180_0 ⟨fun z => ?_, fun _ => ⟨fun _ => ⟨_, h.2.1, _, rfl, _, _, hf, by decide, fun w9 e9 => ?_⟩, fun z => absurd ((jI_le (b := 23) hn s32).mpr v.2) z⟩⟩), d2, (sm1.mono (by decide)).trans (d3.mono (by decide))⟩
    · have := (jI_lt (b := 0) hn z32).mp z; omega
    · have e33 : w9 = pL w 37 0 (jL 1) := e9.trans (pL_of hf).symm
      rw [e33]
      exact d1
  · rw [show zzS n = lNO from if_neg v]
    refine ⟨w, E_180 (S_180_0 ⟨fun _ => rfl, fun q1 => ⟨fun q2 => ?_, fun _ => rfl⟩⟩), h, xsame.rf⟩
    have a := (jI_le (b := 23) hn s32).mp q2
    exact absurd ⟨Int.not_lt.mp (fun z => q1 ((jI_lt (b := 0) hn z32).mpr z)), a⟩ v
end Z6
