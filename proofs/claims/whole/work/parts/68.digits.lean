/-! the class's digits -/
def d10 (x : Int) : Nat → Int
  | 0 => x
  | k + 1 => d10 x k / 10
def dgt (V : Int) (p : Nat) : Int := d10 (dq V (p / 9) % 1000000000) (p % 9) % 10
def szF (V : Int) : Nat → Nat
  | 0 => 0
  | s + 1 => if s = 0 then 1 else if dgt V s = 0 then szF V s else s + 1
def sz (V : Int) : Nat := szF V 252
theorem szF_b (V : Int) : ∀ s : Nat, 1 ≤ s → 1 ≤ szF V s ∧ szF V s ≤ s
  | 0, h => by omega
  | s + 1, _ => by
    show 1 ≤ (if s = 0 then 1 else if dgt V s = 0 then szF V s else s + 1) ∧ (if s = 0 then 1 else if dgt V s = 0 then szF V s else s + 1) ≤ s + 1
    by_cases z : s = 0
    · rw [if_pos z]; omega
    · rw [if_neg z]
      have := szF_b V s (by omega)
      split <;> omega
theorem szF_eq {V : Int} {s0 : Nat} (h1 : 1 ≤ s0) (ht : s0 = 1 ∨ dgt V (s0 - 1) ≠ 0) : ∀ s : Nat, s0 ≤ s → (∀ p, s0 ≤ p → p < s → dgt V p = 0) → szF V s = s0
  | 0, h, _ => by omega
  | s + 1, h, H => by
    show (if s = 0 then 1 else if dgt V s = 0 then szF V s else s + 1) = s0
    by_cases e : s0 = s + 1
    · by_cases z : s = 0
      · rw [if_pos z]; omega
      · rw [if_neg z]
        rcases ht with r | r
        · omega
        · rw [e, Nat.add_sub_cancel] at r
          rw [if_neg r]; exact e.symm
    · rw [if_neg (by omega), if_pos (H s (by omega) (by omega))]
      exact szF_eq h1 ht s (by omega) (fun p a b => H p a (by omega))
theorem d10_b {x : Int} (h0 : 0 ≤ x) (h1 : x ≤ 1000000000) : ∀ k : Nat, 0 ≤ d10 x k ∧ d10 x k ≤ 1000000000
  | 0 => ⟨h0, h1⟩
  | k + 1 => by
    have := d10_b h0 h1 k
    show 0 ≤ d10 x k / 10 ∧ d10 x k / 10 ≤ 1000000000
    omega
theorem dgt_b (V : Int) (p : Nat) : 0 ≤ dgt V p ∧ dgt V p < 10 := by unfold dgt; omega
section D8
variable {c : Nat} {E : eT} {t : Int} {ws : Nat → Int} {me : memT} {w : xW}
theorem L_161 {w : xW} (hC : CS w) {p : Nat} {x : Int} (hp : p < 252) (x0 : 0 ≤ x) (x1 : x ≤ 1000000000) : ∀ (k i : Nat), i + k = p % 9 →
    xGo 161 26 [some (.ref 34), some (.int (jI (p : Int))), some (.long (jL (d10 x i))), none, some (.int (jI (i : Int)))] [] w (some (.int (jI (d10 x (p % 9) % 10))), w) := by
  intro k
  induction k with
  | zero =>
    intro i hi
    have b := d10_b x0 x1 i
    rw [show p % 9 = i by omega]
    exact Z_161_26 hC ⟨s32, _, tmN (by omega), s32, s32, fun _ => ⟨⟨by omega, by omega⟩, _, tmN b.1, rfl⟩, fun q => by omega⟩
  | succ k ih =>
    intro i hi
    have b := d10_b x0 x1 i
    exact Z_161_26 hC ⟨s32, _, tmN (by omega), s32, s32, fun q => by omega, fun _ => ⟨⟨by omega, by omega⟩, _, tdN b.1, ih (i + 1) (by omega)⟩⟩
theorem C_fromRight {w : xW} (hC : CS w) {V : Int} {p : Nat} (hp : p < 252) (H : bn w 35 28 V) : xCall 161 [.ref 34, .int (jI (p : Int))] w (some (.int (jI (dgt V p))), w) := by
  have b := lm_b V (p / 9)
  have r := H (p / 9) (by omega)
  have l := L_161 hC hp b.1 (by omega) (p % 9) 0 (by omega)
  exact Z_161 hC ⟨s32, fun q => by omega, fun _ => ⟨fun _ => ⟨((p / 9 : Nat) : Int), by rw [tdN (by omega)]; omega, by omega, _, (by rw [Int.toNat_natCast]; exact r), l⟩, fun q => by omega⟩⟩
theorem L_160 {V : Int} : ∀ (s : Nat) (w : xW), 1 ≤ s → s ≤ 252 → CS w → fI w 34 10 1 (s : Int) → bn w 35 28 V →
    ∃ w', xGo 160 7 [some (.ref 34)] [] w (none, w') ∧ CS w' ∧ xsame [34] w w' ∧ fI w' 34 10 1 ((szF V s : Nat) : Int) := by
  intro s
  induction s with
  | zero => intro w h1; omega
  | succ s ih =>
    intro w h1 h2 hC hf H
    have e : szF V (s + 1) = if s = 0 then 1 else if dgt V s = 0 then szF V s else s + 1 := rfl
    rw [e]
    by_cases z : s = 0
    · rw [if_pos z]
      rw [z] at hf
      exact ⟨w, Z_160_7 hC ⟨_, hf, s32, fun _ => rfl, fun q => by omega⟩, hC, xsame.rf, hf⟩
    · rw [if_neg z]
      have fr := C_fromRight hC (p := s) (by omega) H
      have db := dgt_b V s
      rw [show (s : Int) = ((s + 1 : Nat) : Int) - 1 by omega] at fr
      by_cases q : dgt V s = 0
      · rw [if_pos q]
        have sm : xsame [34] w (pF w 34 1 (.int (jI (s : Int)))) := sm_pF (by decide)
        obtain ⟨w', g1, g2, g3, g4⟩ := ih (pF w 34 1 (.int (jI (s : Int)))) (by omega) (by omega) (ks_34_1 hC) ((kf_34_1 hC).putI) (H.sm sm (by decide))
        refine ⟨w', Z_160_7 hC ⟨_, hf, s32, fun y => by omega, fun _ => ⟨_, _, fr, hC, ⟨by omega, by omega⟩, fun y => absurd q y, fun _ => ⟨_, hf, fun w12 e12 _ => ?_⟩⟩⟩, g2, sm.trans g3, g4⟩
        rw [e12, show ((s + 1 : Nat) : Int) - 1 = (s : Int) by omega]
        exact g1
      · rw [if_neg q]
        exact ⟨w, Z_160_7 hC ⟨_, hf, s32, fun y => by omega, fun _ => ⟨_, _, fr, hC, ⟨by omega, by omega⟩, fun _ => rfl, fun y => absurd y q⟩⟩, hC, xsame.rf, hf⟩
theorem L_156 {m n : Nat} (m24 : m ≤ 24) (n9 : n ≤ 1000000000) : ∀ (j : Nat) (w : xW), j ≤ m + 1 → cst E t ws me w → bn w 35 28 (evP (coD m) (n : Int) (m + 1 - j) (j + 1)) →
    ∃ w', xGo 156 11 [some (.ref 0), some (.int (jI (m : Int))), some (.int (jI (n : Int))), some (.int (jI (j : Int))), none, none, none] [] w (none, w') ∧ cst E t ws me w' ∧ xsame [34, 35] w w' ∧ bn w' 35 28 (pwS m n) ∧ fI w' 34 10 1 ((sz (pwS m n) : Nat) : Int) := by
  intro j
  induction j with
  | zero =>
    intro w hj h H
    have pb := pw_lt (m := m) (n := n) m24 n9
    have k25 : (1000000000 : Int) ^ 25 * 5577321750 < 1000000000 ^ 28 := by decide +kernel
    obtain ⟨w1, a1, a2, a3, a4⟩ := C_mulAdd h.1 (f := (n : Int)) (a := 0) (by omega) (by omega) (by decide) (by decide) H
    have eW : evP (coD m) (n : Int) (m + 1) 1 * (n : Int) + 0 = K24 * ((m : Int) + 1) * pwS m n := by
      rw [← evD (m := m) (n := n) (by omega)]
      show _ = coD m 0 + (n : Int) * evP (coD m) (n : Int) (m + 1) 1
      rw [show coD m 0 = 0 from if_pos rfl, Int.mul_comm]
      omega
    have a4' : bn w1 35 28 (K24 * ((m : Int) + 1) * pwS m n) := by rw [← eW]; exact a4
    have mp := mul_b (a := K24 * ((m : Int) + 1)) (A := 5577321750) (b := pwS m n) (B := 1000000000 ^ 25) (show (0 : Int) ≤ 223092870 * ((m : Int) + 1) by omega) (show (223092870 : Int) * ((m : Int) + 1) ≤ 5577321750 by omega) pb.1 pb.2
    have dW : dq (K24 * ((m : Int) + 1) * pwS m n) 28 = 0 := dq_0 28 _ mp.1 (by
      have : (5577321750 : Int) * 1000000000 ^ 25 = 1000000000 ^ 25 * 5577321750 := Int.mul_comm ..
      omega)
    obtain ⟨w2, b1, b2, b3, b4⟩ := C_decDiv a2 (b := 223092870) (by decide) (by decide) dW a4'
    have eV : K24 * ((m : Int) + 1) * pwS m n / 223092870 = ((m : Int) + 1) * pwS m n := by
      rw [Int.mul_assoc]
      exact Int.mul_ediv_cancel_left _ (by decide)
    rw [eV] at b4
    have mq := mul_b (a := (m : Int) + 1) (A := 25) (b := pwS m n) (B := 1000000000 ^ 25) (by omega) (by omega) pb.1 pb.2
    have dV : dq (((m : Int) + 1) * pwS m n) 28 = 0 := dq_0 28 _ mq.1 (by
      have : (1000000000 : Int) ^ 25 * 5577321750 = 5577321750 * 1000000000 ^ 25 := Int.mul_comm ..
      have p : 0 ≤ (1000000000 : Int) ^ 25 := by decide +kernel
      omega)
    obtain ⟨w3, d1, d2, d3, d4⟩ := C_decDiv b2 (b := (m : Int) + 1) (by omega) (by omega) dV b4
    rw [Int.mul_ediv_cancel_left _ (by omega)] at d4
    have s4 : xsame [34] w3 (pF w3 34 1 (.int (jI 252))) := sm_pF (by decide)
    obtain ⟨w5, g1, g2, g3, g4⟩ := L_160 252 (pF w3 34 1 (.int (jI 252))) (by decide) (by decide) (ks_34_1 d2) ((kf_34_1 d2).putI) (d4.sm s4 (by decide))
    have me' : xCall 160 [.ref 34] w3 (none, w5) := Z_160 d2 (fun w2 e2 _ => by rw [e2]; exact g1)
    have sm : xsame [34, 35] w w5 := (a3.mono (by decide)).trans ((b3.mono (by decide)).trans ((d3.mono (by decide)).trans ((s4.mono (by decide)).trans (g3.mono (by decide)))))
    exact ⟨w5, Z_156_11 h.1 ⟨s32, fun _ => ⟨s32, _, a1, a2, _, b1, b2, s32, _, d1, d2, _, me', g2, rfl⟩, fun q => by omega⟩, h.same sm (by decide) g2, sm, (d4.sm s4 (by decide)).sm g3 (by decide), g4⟩
  | succ j ih =>
    intro w hj h H
    have cb' := coD_b (m := m) (j := j + 1) (by omega) (by omega)
    obtain ⟨w1, a1, a2, a3, a4⟩ := C_mulAdd h.1 (f := (n : Int)) (a := coD m (j + 1)) (by omega) (by omega) cb'.1 cb'.2 H
    have h1 := h.same a3 (by decide) a2
    have eW : evP (coD m) (n : Int) (m + 1 - (j + 1)) (j + 1 + 1) * (n : Int) + coD m (j + 1) = evP (coD m) (n : Int) (m + 1 - j) (j + 1) := by
      rw [show m + 1 - j = (m + 1 - (j + 1)) + 1 by omega]
      show _ = coD m (j + 1) + (n : Int) * evP (coD m) (n : Int) (m + 1 - (j + 1)) (j + 1 + 1)
      rw [Int.mul_comm (n : Int), Int.add_comm]
    rw [eW] at a4
    obtain ⟨w2, b1, b2, b3, b4, b5⟩ := ih w1 (by omega) h1 a4
    have sc := C_scaledR h (n := (m : Int) + 1 - ((j + 1 : Nat) : Int)) (S := 223092870) (by omega) (by omega) (by decide) s64
    have ex := C_extraZ (n := (m : Int) + 1 - ((j + 1 : Nat) : Int)) s32 w
    have o := C_of h (n := (m : Int) + 1) (k := ((j + 1 : Nat) : Int)) (by omega) (by omega) (by omega) (by omega)
    rw [show ((m : Int) + 1).toNat = m + 1 by omega, Int.toNat_natCast] at o
    rw [show ((m : Int) + 1 - ((j + 1 : Nat) : Int)).toNat = m + 1 - (j + 1) by omega] at sc
    have e0 : coD m (j + 1) = ((cb (m + 1) (j + 1) : Nat) : Int) * (scV (rE (m + 1 - (j + 1))) 223092870 + (if (m : Int) + 1 - ((j + 1 : Nat) : Int) = 1 then 1 else 0) * 223092870) := by
      unfold coD
      rw [if_neg (by omega), show ((m + 1 - (j + 1) : Nat) : Int) = (m : Int) + 1 - ((j + 1 : Nat) : Int) by omega]
    rw [e0] at a1
    refine ⟨w2, Z_156_11 h.1 ⟨s32, fun q => by omega, fun _ => ⟨_, _, sc, h.1, _, _, ex, h.1, by split <;> exact s32, s32, _, _, o, h.1, _, a1, a2, ?_⟩⟩, b2, (a3.mono (by decide)).trans b3, b4, b5⟩
    rw [show (((j + 1 : Nat) : Int) - 1) = (j : Int) by omega]
    exact b1
theorem C_workSum (h : cst E t ws me w) {m n : Nat} (m24 : m ≤ 24) (n9 : n ≤ 1000000000) : ∃ w', xCall 156 [.ref 0, .int (jI (m : Int)), .int (jI (n : Int))] w (none, w') ∧ cst E t ws me w' ∧ xsame [34, 35] w w' ∧ bn w' 35 28 (pwS m n) ∧ fI w' 34 10 1 ((sz (pwS m n) : Nat) : Int) := by
  obtain ⟨w1, a1, a2, a3, a4⟩ := C_clear h.1
  have h1 := h.same a3 (by decide) a2
  obtain ⟨w2, b1, b2, b3, b4, b5⟩ := L_156 m24 n9 (m + 1) w1 (Nat.le_refl _) h1 (by rw [Nat.sub_self]; exact a4)
  exact ⟨w2, Z_156 h.1 ⟨_, a1, a2, b1⟩, b2, (a3.mono (by decide)).trans b3, b4, b5⟩
abbrev smP (m n : Int) : Prop := 0 ≤ m ∧ m ≤ 24 ∧ 0 ≤ n ∧ n ≤ 1000000000
def dgS (m n : Int) : Int := if smP m n then ((sz (pwS m.toNat n.toNat) : Nat) : Int) else -1
def dtS (m n i : Int) : Int := if smP m n ∧ 0 ≤ i then (if ((sz (pwS m.toNat n.toNat) : Nat) : Int) ≤ i then -2 else dgt (pwS m.toNat n.toNat) (sz (pwS m.toNat n.toNat) - 1 - i.toNat)) else -1
theorem c_digits {m n : Int} (hm : in32 m) (hn : in32 n) : cAns E t ws me E t ws me 155 [.int (jI m), .int (jI n)] (.int (jI (dgS m n))) := by
  intro w h
  by_cases v : smP m n
  · obtain ⟨w1, a1, a2, a3, a4, a5⟩ := C_workSum h (m := m.toNat) (n := n.toNat) (by omega) (by omega)
    rw [Int.toNat_of_nonneg v.1, Int.toNat_of_nonneg v.2.2.1] at a1
    rw [show dgS m n = _ from if_pos v]
    exact ⟨w1, Z_155 h.1 ⟨_, _, _, C_isSum hm hn w, h.1, fun _ => ⟨_, a1, a2.1, _, _, Z_162 a2.1 ⟨_, a5, rfl⟩, a2.1, rfl⟩, fun q => absurd v q⟩, a2, a3.mono (by decide)⟩
  · rw [show dgS m n = -1 from if_neg v]
    exact ⟨w, Z_155 h.1 ⟨_, _, _, C_isSum hm hn w, h.1, fun q => absurd q v, fun _ => rfl⟩, h, xsame.rf⟩
theorem c_digit {m n i : Int} (hm : in32 m) (hn : in32 n) (hi : in32 i) : cAns E t ws me E t ws me 163 [.int (jI m), .int (jI n), .int (jI i)] (.int (jI (dtS m n i))) := by
  intro w h
  by_cases v : smP m n ∧ 0 ≤ i
  · obtain ⟨w1, a1, a2, a3, a4, a5⟩ := C_workSum h (m := m.toNat) (n := n.toNat) (by omega) (by omega)
    rw [Int.toNat_of_nonneg v.1.1, Int.toNat_of_nonneg v.1.2.2.1] at a1
    have sb : 1 ≤ sz (pwS m.toNat n.toNat) ∧ sz (pwS m.toNat n.toNat) ≤ 252 := szF_b _ 252 (by decide)
    rw [show dtS m n i = _ from if_pos v]
    by_cases q : ((sz (pwS m.toNat n.toNat) : Nat) : Int) ≤ i
    · rw [if_pos q]
      exact ⟨w1, Z_163 h.1 ⟨_, _, _, C_isSum hm hn w, h.1, fun y => absurd v.1 y, fun _ => ⟨hi, fun _ => ⟨_, a1, a2.1, _, _, Z_162 a2.1 ⟨_, a5, rfl⟩, a2.1, ⟨by omega, by omega⟩, fun y => by omega, fun _ => rfl⟩, fun y => by omega⟩⟩, a2, a3.mono (by decide)⟩
    · rw [if_neg q]
      have fr := C_fromRight a2.1 (p := sz (pwS m.toNat n.toNat) - 1 - i.toNat) (by omega) a4
      rw [show ((sz (pwS m.toNat n.toNat) - 1 - i.toNat : Nat) : Int) = ((sz (pwS m.toNat n.toNat) : Nat) : Int) - 1 - i by omega] at fr
      exact ⟨w1, Z_163 h.1 ⟨_, _, _, C_isSum hm hn w, h.1, fun y => absurd v.1 y, fun _ => ⟨hi, fun _ => ⟨_, a1, a2.1, _, _, Z_162 a2.1 ⟨_, a5, rfl⟩, a2.1, ⟨by omega, by omega⟩, fun _ => ⟨_, _, Z_164 a2.1 ⟨_, a5, _, _, fr, a2.1, rfl⟩, a2.1, rfl⟩, fun y => by omega⟩, fun y => by omega⟩⟩, a2, a3.mono (by decide)⟩
  · rw [show dtS m n i = -1 from if_neg v]
    exact ⟨w, Z_163 h.1 ⟨_, _, _, C_isSum hm hn w, h.1, fun _ => rfl, fun q1 => ⟨hi, fun q2 => absurd ⟨q1, q2⟩ v, fun _ => rfl⟩⟩, h, xsame.rf⟩
end D8
