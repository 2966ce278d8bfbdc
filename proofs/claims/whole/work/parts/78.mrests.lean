/-! the model's rests modulo a prime: by recurrence, by triangle, by powers -/
def xQr (p n : Nat) : Nat → Int
  | 0 => 0
  | k + 1 => (xQr p n k + ((cb (n + 1) k % p : Nat) : Int) * ((bwS p k : Nat) : Int)) % p
theorem xQr_cg (p n : Nat) : ∀ k : Nat, cg p (xQr p n k) (xBm p n k)
  | 0 => cg.rf
  | k + 1 => cg.mod.tr ((xQr_cg p n k).add cg.rf)
theorem xQr_b {p n : Nat} (hp : 0 < p) : ∀ k : Nat, 0 ≤ xQr p n k ∧ xQr p n k < p
  | 0 => ⟨Int.le_refl 0, by show (0 : Int) < p; omega⟩
  | k + 1 => ⟨Int.emod_nonneg _ (by omega), Int.emod_lt_of_pos _ (by omega)⟩
section M8
theorem L_253a {p n : Nat} (hp : p ∈ prN) (n2 : n + 3 ≤ p) : ∀ (j : Nat) (w : xW), j ≤ n + 1 → CS w → (∀ i, i < 200 → rI w 50 i (((if j < i then cb (n + 1) i else cb n i) % p : Nat) : Int)) →
    ∃ w', CS w' ∧ xsame [50] w w' ∧ (∀ i, i < 200 → rI w' 50 i ((cb (n + 1) i % p : Nat) : Int)) ∧ ∀ s, xGo 253 95 [some (.ref 39), some (.int (jI (p : Int))), some (.int (jI (n : Int))), some (.int (jI 0)), some (.int (jI 0))] [] w' s → xGo 253 57 [some (.ref 39), some (.int (jI (p : Int))), some (.int (jI (n : Int))), some (.int (jI (j : Int))), none] [] w s := by
  have pb := prN_b p hp
  intro j
  induction j with
  | zero =>
    intro w hj hC H
    refine ⟨w, hC, xsame.rf, fun i hi => ?_, fun s g => Z_253_57 hC ⟨s32, fun _ => g, fun q => by omega⟩⟩
    have := H i hi
    by_cases z : i = 0
    · rw [z] at this ⊢
      rw [if_neg (by omega), cb_n0] at this
      rw [cb_n0]; exact this
    · rw [if_pos (by omega)] at this; exact this
  | succ j ih =>
    intro w hj hC H
    have a := H (j + 1) (by omega)
    have b := H j (by omega)
    rw [if_neg (by omega)] at a b
    have la := Nat.mod_lt (cb n (j + 1)) (show 0 < p by omega)
    have lb := Nat.mod_lt (cb n j) (show 0 < p by omega)
    have e : (((cb n (j + 1) % p : Nat) : Int) + ((cb n j % p : Nat) : Int)) % (p : Int) = ((cb (n + 1) (j + 1) % p : Nat) : Int) := by
      show _ = (((cb n j + cb n (j + 1)) % p : Nat) : Int)
      rw [Nat.add_comm (cb n j), Nat.add_mod, Int.natCast_emod ((cb n (j + 1) % p + cb n j % p)), Int.natCast_add]
    have sm : xsame [50] w (pI w 50 (j + 1) (jI ((cb (n + 1) (j + 1) % p : Nat) : Int))) := sm_pI (by decide)
    obtain ⟨w', g1, g2, g3, g4⟩ := ih (pI w 50 (j + 1) (jI ((cb (n + 1) (j + 1) % p : Nat) : Int))) (by omega) hC.putI (fun i hi => by
      by_cases z : i = j + 1
      · rw [z, if_pos (by omega)]; exact ((kl_50 hC).has (by decide) (by omega)).put
      · have := H i hi
        by_cases y : j < i
        · rw [if_pos y]; rw [if_pos (by omega)] at this; exact this.put z
        · rw [if_neg y]; rw [if_neg (by omega)] at this; exact this.put z)
    refine ⟨w', g1, sm.trans g2, g3, fun s g => Z_253_57 hC ⟨s32, fun q => by omega, fun _ => ⟨by omega, _, a, by omega, _, (by rw [show (((j + 1 : Nat) : Int) - 1).toNat = j by omega]; exact b), ⟨by omega, by omega⟩, s32, by omega, _, tmN (by omega), ⟨by omega, by omega⟩, fun w15 e15 _ => ?_⟩⟩⟩
    rw [e15, e, show (((j + 1 : Nat) : Int) - 1) = (j : Int) by omega]
    exact g4 s g
theorem L_253b {w : xW} (hC : CS w) {p n : Nat} {r : Option Value × xW} (hp : p ∈ prN) (n1 : 1 ≤ n) (n2 : n + 3 ≤ p) (H30 : ∀ i, i < 200 → rI w 50 i ((cb (n + 1) i % p : Nat) : Int)) (H29 : ∀ i, i < n → rI w 49 i ((bwS p i : Nat) : Int)) (K : xGo 253 46 [some (.ref 39), some (.int (jI (p : Int))), some (.int (jI ((n : Int) + 1))), none, none] [] (pI w 49 n (jI ((bwS p n : Nat) : Int))) r) : ∀ (f k : Nat), k + f = n →
    xGo 253 95 [some (.ref 39), some (.int (jI (p : Int))), some (.int (jI (n : Int))), some (.int (jI (xQr p n k))), some (.int (jI (k : Int)))] [] w r := by
  have pb := prN_b p hp
  intro f
  induction f with
  | zero =>
    intro k hk
    have e : k = n := by omega
    subst e
    have xb := xQr_b (p := p) (n := k) (by omega) k
    have nd : ¬ (p : Int) ∣ ((k : Int) + 1) := fun z => by have := Int.le_of_dvd (by omega) z; omega
    have fb := fi_le (b := (k : Int) + 1) (p := p) (by omega)
    have inv := fi_nat (x := (k : Int) + 1) (p := p) (by omega) (by omega) (by omega) w
    rw [Int.emod_eq_of_lt (by omega) (by omega)] at inv
    have mm := mul_ab (a := -(xQr p k k)) (A := 200) (b := fi ((k : Int) + 1) p) (B := 200) (by omega) (by omega) (by omega) (by omega)
    have one := rec_one (T := -(xQr p k k)) hp n1 (by omega) (fi_one hp nd) (by
      have a : cg p (0 - xQr p k k) (0 - xBm p k k) := cg.sub cg.rf (xQr_cg p k k)
      rw [Int.zero_sub, Int.zero_sub] at a
      exact a)
    have rs := C_rest (a := -(xQr p k k) * fi ((k : Int) + 1) p) (p := p) ⟨by omega, by omega⟩ (by omega) (by omega) w
    refine Z_253_95 hC ⟨s32, s32, fun _ => ⟨⟨by omega, by omega⟩, _, _, inv, hC, ⟨by omega, by omega⟩, _, _, rs, hC, ⟨by omega, by omega⟩, fun w19 e19 _ => ?_⟩, fun q => by omega⟩
    rw [e19, one]
    exact K
  | succ f ih =>
    intro k hk
    have xb := xQr_b (p := p) (n := n) (by omega) k
    have la := Nat.mod_lt (cb (n + 1) k) (show 0 < p by omega)
    have lb := bw_lt (n := k) hp
    have mm := mul_b (a := ((cb (n + 1) k % p : Nat) : Int)) (A := 200) (b := ((bwS p k : Nat) : Int)) (B := 200) (by omega) (by omega) (by omega) (by omega)
    exact Z_253_95 hC ⟨s32, s32, fun q => by omega, fun _ => ⟨by omega, _, H30 k (by omega), by omega, _, H29 k (by omega), ⟨by omega, by omega⟩, s32, by omega, _, tmN (by omega), ih (k + 1) (by omega)⟩⟩
theorem L_253 {p : Nat} (hp : p ∈ prN) : ∀ (f n : Nat) (w : xW), n + f + 2 = p → 1 ≤ n → CS w → (∀ i, i < 200 → rI w 50 i ((cb n i % p : Nat) : Int)) → (∀ i, i < n → rI w 49 i ((bwS p i : Nat) : Int)) →
    ∃ w', xGo 253 46 [some (.ref 39), some (.int (jI (p : Int))), some (.int (jI (n : Int))), none, none] [] w (none, w') ∧ CS w' ∧ xsame [49, 50] w w' ∧ ∀ i, i + 3 ≤ p → rI w' 49 i ((bwS p i : Nat) : Int) := by
  have pb := prN_b p hp
  intro f
  induction f with
  | zero =>
    intro n w hn n1 hC H30 H29
    exact ⟨w, Z_253_46 hC ⟨s32, s32, fun _ => rfl, fun q => by omega⟩, hC, xsame.rf, fun i hi => H29 i (by omega)⟩
  | succ f ih =>
    intro n w hn n1 hC H30 H29
    obtain ⟨w1, a1, a2, a3, a4⟩ := L_253a hp (n := n) (by omega) (n + 1) w (by omega) hC (fun i hi => by
      by_cases y : n + 1 < i
      · rw [if_pos y]
        have := H30 i hi
        rw [cb_gt n i (by omega)] at this
        rw [cb_gt (n + 1) i y]; exact this
      · rw [if_neg y]; exact H30 i hi)
    have sm : xsame [49] w1 (pI w1 49 n (jI ((bwS p n : Nat) : Int))) := sm_pI (by decide)
    obtain ⟨w2, b1, b2, b3, b4⟩ := ih (n + 1) (pI w1 49 n (jI ((bwS p n : Nat) : Int))) (by omega) (by omega) a1.putI (fun i hi => (a3 i hi).sm sm (by decide)) (fun i hi => by
      by_cases z : i = n
      · rw [z]; exact ((kl_49 a1).has (by decide) (by omega)).put
      · exact ((H29 i (by omega)).sm a2 (by decide)).put z)
    have g := L_253b a1 hp n1 (by omega) a3 (fun i hi => (H29 i hi).sm a2 (by decide)) b1 n 0 (by omega)
    exact ⟨w2, Z_253_46 hC ⟨s32, s32, fun q => by omega, fun _ => a4 _ g⟩, b2, (a2.mono (by decide)).trans ((sm.mono (by decide)).trans b3), b4⟩
theorem L_253i {p : Nat} : ∀ (k i : Nat) (w : xW), i + k = 200 → CS w → (∀ j, j < i → rI w 50 j (if j = 0 then 1 else 0)) →
    ∃ w', CS w' ∧ xsame [50] w w' ∧ (∀ j, j < 200 → rI w' 50 j (if j = 0 then 1 else 0)) ∧ ∀ s, xGo 253 46 [some (.ref 39), some (.int (jI (p : Int))), some (.int (jI 1)), none, none] [] (pI w' 50 1 (jI 1)) s → xGo 253 9 [some (.ref 39), some (.int (jI (p : Int))), some (.int (jI (i : Int))), none, none] [] w s := by
  intro k
  induction k with
  | zero =>
    intro i w hi hC H
    exact ⟨w, hC, xsame.rf, fun j hj => H j (by omega), fun s g => Z_253_9 hC ⟨s32, fun _ w3 e3 _ => by rw [e3]; exact g, fun q => by omega⟩⟩
  | succ k ih =>
    intro i w hi hC H
    have sm : xsame [50] w (pI w 50 i (jI (if i = 0 then 1 else 0))) := sm_pI (by decide)
    obtain ⟨w', g1, g2, g3, g4⟩ := ih (i + 1) (pI w 50 i (jI (if i = 0 then 1 else 0))) (by omega) hC.putI (fun j hj => by
      by_cases z : j = i
      · rw [z]; exact ((kl_50 hC).has (by decide) (by omega)).put
      · exact (H j (by omega)).put z)
    refine ⟨w', g1, sm.trans g2, g3, fun s g => Z_253_9 hC ⟨s32, fun q => by omega, fun _ => ⟨fun q => ⟨⟨by omega, by omega⟩, fun w7 e7 _ => ?_⟩, fun q => ⟨⟨by omega, by omega⟩, fun w7 e7 _ => ?_⟩⟩⟩⟩
    · rw [e7]
      have h := g4 s g
      rw [if_neg (by omega)] at h
      exact h
    · rw [e7]
      have h := g4 s g
      rw [if_pos (by omega)] at h
      exact h
theorem C_laysRests {w : xW} (hC : CS w) {p : Nat} (hp : p ∈ prN) : ∃ w', xCall 253 [.ref 39, .int (jI (p : Int))] w (none, w') ∧ CS w' ∧ xsame [49, 50] w w' ∧ ∀ i, i + 3 ≤ p → rI w' 49 i ((bwS p i : Nat) : Int) := by
  have pb := prN_b p hp
  have s0 : xsame [49] w (pI w 49 0 (jI 1)) := sm_pI (by decide)
  have r0 : rI (pI w 49 0 (jI 1)) 49 0 1 := ((kl_49 hC).has (by decide) (by decide)).put
  obtain ⟨w1, a1, a2, a3, a4⟩ := L_253i (p := p) 200 0 (pI w 49 0 (jI 1)) (by omega) hC.putI (fun j hj => by omega)
  have s2 : xsame [50] w1 (pI w1 50 1 (jI 1)) := sm_pI (by decide)
  have m1 : 1 % p = 1 := Nat.mod_eq_of_lt (by omega)
  obtain ⟨w2, b1, b2, b3, b4⟩ := L_253 hp (p - 3) 1 (pI w1 50 1 (jI 1)) (by omega) (by decide) a1.putI (fun i hi => by
    by_cases i0 : i = 0
    · rw [i0]
      show rI _ 50 0 ((1 % p : Nat) : Int)
      rw [m1]
      exact (a3 0 (by decide)).put (by decide)
    · by_cases i1 : i = 1
      · rw [i1]
        show rI _ 50 1 ((1 % p : Nat) : Int)
        rw [m1]
        exact ((kl_50 a1).has (by decide) (by decide)).put
      · rw [cb_gt 1 i (by omega), Nat.zero_mod]
        have := a3 i hi
        rw [if_neg i0] at this
        exact this.put i1) (fun i hi => by
    rw [show i = 0 by omega]
    show rI _ 49 0 1
    exact (r0.sm a2 (by decide)).sm s2 (by decide))
  exact ⟨w2, Z_253 hC (fun w2' e2 _ => by rw [e2]; exact a4 _ b1), b2, (s0.mono (by decide)).trans ((a2.mono (by decide)).trans ((s2.mono (by decide)).trans b3)), b4⟩
/-! laysAll -/
theorem bw_last {p : Nat} (hp : p ∈ prN) : bwS p (p - 2) = if p = 3 then 1 else 0 := by
  have pb := prN_b p hp
  have po := pr_odd hp
  by_cases z : p = 3
  · rw [z]; rfl
  · rw [if_neg z]
    unfold bwS
    rw [if_neg (by omega), if_neg (by omega), if_pos (by omega)]
theorem L_252 {p : Nat} (hp : p ∈ prN) : ∀ (k n : Nat) (w : xW), n + k + 2 = p → CS w → (∀ i, i + 3 ≤ p → rI w 49 i ((bwS p i : Nat) : Int)) → (∀ i, i < n → rI w 51 i ((bwS p i : Nat) : Int)) →
    ∃ w', xGo 252 7 [some (.ref 39), some (.int (jI (p : Int))), some (.int (jI (n : Int)))] [] w (none, w') ∧ CS w' ∧ xsame [51] w w' ∧ ∀ i, i + 2 ≤ p → rI w' 51 i ((bwS p i : Nat) : Int) := by
  have pb := prN_b p hp
  intro k
  induction k with
  | zero =>
    intro n w hn hC H49 H51
    have el : ((p : Int) - 2).toNat = p - 2 := by omega
    have key : ∀ v : Int, v = ((bwS p (p - 2) : Nat) : Int) → xsame [51] w (pI w 51 (p - 2) (jI v)) ∧ ∀ i, i + 2 ≤ p → rI (pI w 51 (p - 2) (jI v)) 51 i ((bwS p i : Nat) : Int) := by
      intro v hv
      refine ⟨sm_pI (by decide), fun i hi => ?_⟩
      by_cases z : i = p - 2
      · rw [z, ← hv]; exact ((kl_51 hC).has (by decide) (by omega)).put
      · exact (H51 i (by omega)).put z
    by_cases z : p = 3
    · obtain ⟨k1, k2⟩ := key 1 (by rw [bw_last hp, if_pos z]; rfl)
      exact ⟨pI w 51 (p - 2) (jI 1), Z_252_7 hC ⟨s32, s32, fun _ => ⟨s32, fun q => by omega, fun _ => ⟨⟨by omega, by omega⟩, fun w6 e6 _ => by rw [e6, el]⟩⟩, fun q => by omega⟩, hC.putI, k1, k2⟩
    · obtain ⟨k1, k2⟩ := key 0 (by rw [bw_last hp, if_neg z]; rfl)
      exact ⟨pI w 51 (p - 2) (jI 0), Z_252_7 hC ⟨s32, s32, fun _ => ⟨s32, fun _ => ⟨⟨by omega, by omega⟩, fun w6 e6 _ => by rw [e6, el]⟩, fun q => by omega⟩, fun q => by omega⟩, hC.putI, k1, k2⟩
  | succ k ih =>
    intro n w hn hC H49 H51
    have sm : xsame [51] w (pI w 51 n (jI ((bwS p n : Nat) : Int))) := sm_pI (by decide)
    obtain ⟨w', g1, g2, g3, g4⟩ := ih (n + 1) (pI w 51 n (jI ((bwS p n : Nat) : Int))) (by omega) hC.putI (fun i hi => (H49 i hi).sm sm (by decide)) (fun i hi => by
      by_cases z : i = n
      · rw [z]; exact ((kl_51 hC).has (by decide) (by omega)).put
      · exact (H51 i (by omega)).put z)
    exact ⟨w', Z_252_7 hC ⟨s32, s32, fun q => by omega, fun _ => ⟨by omega, _, H49 n (by omega), ⟨by omega, by omega⟩, fun w17 e17 _ => by rw [e17]; exact g1⟩⟩, g2, sm.trans g3, g4⟩
theorem C_laysAll {w : xW} (hC : CS w) {p : Nat} (hp : p ∈ prN) : ∃ w', xCall 252 [.ref 39, .int (jI (p : Int))] w (none, w') ∧ CS w' ∧ xsame [49, 50, 51, 52] w w' ∧ ∀ i, i + 2 ≤ p → rI w' 51 i ((bwS p i : Nat) : Int) := by
  have pb := prN_b p hp
  obtain ⟨w1, a1, a2, a3, a4⟩ := C_laysRests hC hp
  obtain ⟨w2, b1, b2, b3, b4⟩ := L_252 hp (p - 2) 0 w1 (by omega) a2 a4 (fun i hi => by omega)
  exact ⟨w2, Z_252 hC ⟨_, a1, a2, b1⟩, b2, (a3.mono (by decide)).trans (b3.mono (by decide)), b4⟩
/-! laysTriangle -/
theorem L_254a {p : Nat} (hp : p ∈ prN) : ∀ (k i : Nat) (w : xW), i + k + 1 = p → CS w → (∀ j, j < i → rI w 52 j ((tmF p 0 j : Nat) : Int)) →
    ∃ w', CS w' ∧ xsame [52] w w' ∧ (∀ j, j + 2 ≤ p → rI w' 52 j ((tmF p 0 j : Nat) : Int)) ∧ ∀ s, xGo 254 33 [some (.ref 39), some (.int (jI (p : Int))), some (.int (jI 0)), none] [] w' s → xGo 254 2 [some (.ref 39), some (.int (jI (p : Int))), some (.int (jI (i : Int))), none] [] w s := by
  have pb := prN_b p hp
  intro k
  induction k with
  | zero =>
    intro i w hi hC H
    exact ⟨w, hC, xsame.rf, fun j hj => H j (by omega), fun s g => Z_254_2 hC ⟨s32, s32, fun _ => g, fun q => by omega⟩⟩
  | succ k ih =>
    intro i w hi hC H
    have inv := fi_nat (x := (i : Int) + 1) (p := p) (by omega) (by omega) (by omega) w
    rw [Int.emod_eq_of_lt (by omega) (by omega), fi_tm (by omega)] at inv
    have sm : xsame [52] w (pI w 52 i (jI ((tmF p 0 i : Nat) : Int))) := sm_pI (by decide)
    obtain ⟨w', g1, g2, g3, g4⟩ := ih (i + 1) (pI w 52 i (jI ((tmF p 0 i : Nat) : Int))) (by omega) hC.putI (fun j hj => by
      by_cases z : j = i
      · rw [z]; exact ((kl_52 hC).has (by decide) (by omega)).put
      · exact (H j (by omega)).put z)
    exact ⟨w', g1, sm.trans g2, g3, fun s g => Z_254_2 hC ⟨s32, s32, fun q => by omega, fun _ => ⟨_, _, inv, hC, ⟨by omega, by omega⟩, fun w11 e11 _ => by rw [e11]; exact g4 s g⟩⟩⟩
theorem tmS_m {p j a b : Nat} (hb : b < p) : ((j : Int) + 1) * ((a : Int) - b) % p = ((tmS p j a b : Nat) : Int) := by
  unfold tmS
  rw [Int.natCast_emod, Int.natCast_mul, show ((a + p - b : Nat) : Int) = ((a : Int) - b) + p by omega, Int.mul_add]
  exact (Int.add_mul_emod_self_right ..).symm
theorem L_254b {p n : Nat} (hp : p ∈ prN) (n2 : n + 2 ≤ p) : ∀ (k i : Nat) (w : xW), i + k + n + 2 = p → CS w → (∀ j, j < i → rI w 52 j ((tmF p (n + 1) j : Nat) : Int)) → (∀ j, i ≤ j → j + n + 2 ≤ p → rI w 52 j ((tmF p n j : Nat) : Int)) →
    ∃ w', CS w' ∧ xsame [52] w w' ∧ (∀ j, j + (n + 1) + 2 ≤ p → rI w' 52 j ((tmF p (n + 1) j : Nat) : Int)) ∧ ∀ s, xGo 254 33 [some (.ref 39), some (.int (jI (p : Int))), some (.int (jI ((n : Int) + 1))), none] [] w' s → xGo 254 75 [some (.ref 39), some (.int (jI (p : Int))), some (.int (jI (n : Int))), some (.int (jI (i : Int)))] [] w s := by
  have pb := prN_b p hp
  intro k
  induction k with
  | zero =>
    intro i w hi hC H1 H2
    exact ⟨w, hC, xsame.rf, fun j hj => H1 j (by omega), fun s g => Z_254_75 hC ⟨s32, s32, fun _ => g, fun q => by omega⟩⟩
  | succ k ih =>
    intro i w hi hC H1 H2
    have a := H2 i (Nat.le_refl i) (by omega)
    have b := H2 (i + 1) (by omega) (by omega)
    have la := tmF_lt (p := p) (by omega) n i
    have lb := tmF_lt (p := p) (by omega) n (i + 1)
    have mm := mul_ab (a := (i : Int) + 1) (A := 200) (b := ((tmF p n i : Nat) : Int) - ((tmF p n (i + 1) : Nat) : Int)) (B := 400) (by omega) (by omega) (by omega) (by omega)
    have e := tmS_m (p := p) (j := i) (a := tmF p n i) lb
    have rs := C_rest (a := ((i : Int) + 1) * (((tmF p n i : Nat) : Int) - ((tmF p n (i + 1) : Nat) : Int))) (p := p) ⟨by omega, by omega⟩ (by omega) (by omega) w
    rw [e] at rs
    have sm : xsame [52] w (pI w 52 i (jI ((tmF p (n + 1) i : Nat) : Int))) := sm_pI (by decide)
    obtain ⟨w', g1, g2, g3, g4⟩ := ih (i + 1) (pI w 52 i (jI ((tmF p (n + 1) i : Nat) : Int))) (by omega) hC.putI (fun j hj => by
      by_cases z : j = i
      · rw [z]; exact ((kl_52 hC).has (by decide) (by omega)).put
      · exact (H1 j (by omega)).put z) (fun j h1 h2 => (H2 j (by omega) h2).put (by omega))
    refine ⟨w', g1, sm.trans g2, g3, fun s g => Z_254_75 hC ⟨s32, s32, fun q => by omega, fun _ => ⟨s32, by omega, _, a, by omega, _, b, ⟨by omega, by omega⟩, _, _, rs, hC, ⟨by omega, by omega⟩, fun w17 e17 _ => ?_⟩⟩⟩
    rw [e17]
    exact g4 s g
theorem L_254 {p : Nat} (hp : p ∈ prN) : ∀ (f n : Nat) (w : xW), n + f + 1 = p → CS w → (∀ j, j + n + 2 ≤ p → rI w 52 j ((tmF p n j : Nat) : Int)) → (∀ i, i < n → rI w 51 i ((bwS p i : Nat) : Int)) →
    ∃ w', xGo 254 33 [some (.ref 39), some (.int (jI (p : Int))), some (.int (jI (n : Int))), none] [] w (none, w') ∧ CS w' ∧ xsame [51, 52] w w' ∧ ∀ i, i + 2 ≤ p → rI w' 51 i ((bwS p i : Nat) : Int) := by
  have pb := prN_b p hp
  intro f
  induction f with
  | zero =>
    intro n w hn hC H30 H29
    exact ⟨w, Z_254_33 hC ⟨s32, s32, fun _ => rfl, fun q => by omega⟩, hC, xsame.rf, fun i hi => H29 i (by omega)⟩
  | succ f ih =>
    intro n w hn hC H30 H29
    have s1 : xsame [51] w (pI w 51 n (jI ((bwS p n : Nat) : Int))) := sm_pI (by decide)
    obtain ⟨w1, a1, a2, a3, a4⟩ := L_254b hp (n := n) (by omega) (p - 2 - n) 0 (pI w 51 n (jI ((bwS p n : Nat) : Int))) (by omega) hC.putI (fun j hj => by omega) (fun j _ hj => (H30 j hj).sm s1 (by decide))
    obtain ⟨w2, b1, b2, b3, b4⟩ := ih (n + 1) w1 (by omega) a1 a3 (fun i hi => by
      by_cases z : i = n
      · rw [z]; exact (((kl_51 hC).has (by decide) (by omega)).put).sm a2 (by decide)
      · exact ((H29 i (by omega)).put z).sm a2 (by decide))
    have r0 := H30 0 (by omega)
    have l1 := tmF_lt (p := p) (by omega) n 0
    have tb := tmF_bw hp (n := n) (by omega)
    refine ⟨w2, Z_254_33 hC ⟨s32, s32, fun q => by omega, fun _ => ⟨fun q => ⟨_, r0, ⟨by omega, by omega⟩, fun w27 e27 _ => ?_⟩, fun q => ?_⟩⟩, b2, (s1.mono (by decide)).trans ((a2.mono (by decide)).trans b3), b4⟩
    · rw [if_neg (by omega)] at tb
      rw [e27, tb]
      exact a4 _ b1
    · have en : n = 1 := by omega
      rw [if_pos en] at tb
      have rs := C_rest (a := ((tmF p n 0 : Nat) : Int) - 1) (p := p) ⟨by omega, by omega⟩ (by omega) (by omega) w
      have e : (((tmF p n 0 : Nat) : Int) - 1) % p = ((bwS p n : Nat) : Int) := by
        rw [← tb, Int.natCast_emod, show ((tmF p n 0 + p - 1 : Nat) : Int) = ((tmF p n 0 : Nat) : Int) - 1 + p by omega]
        exact (Int.add_emod_right ..).symm
      rw [e] at rs
      exact ⟨_, r0, s32, _, _, rs, hC, ⟨by omega, by omega⟩, fun w27 e27 _ => by rw [e27]; exact a4 _ b1⟩
theorem C_mlaysTri {w : xW} (hC : CS w) {p : Nat} (hp : p ∈ prN) : ∃ w', xCall 254 [.ref 39, .int (jI (p : Int))] w (none, w') ∧ CS w' ∧ xsame [49, 50, 51, 52] w w' ∧ ∀ i, i + 2 ≤ p → rI w' 51 i ((bwS p i : Nat) : Int) := by
  have pb := prN_b p hp
  obtain ⟨w1, a1, a2, a3, a4⟩ := L_254a hp (p - 1) 0 w (by omega) hC (fun j hj => by omega)
  obtain ⟨w2, b1, b2, b3, b4⟩ := L_254 hp (p - 1) 0 w1 (by omega) a1 a3 (fun i hi => by omega)
  exact ⟨w2, Z_254 hC (a4 _ b1), b2, (a2.mono (by decide)).trans (b3.mono (by decide)), b4⟩
/-! laysWay -/
theorem L_251 {p : Nat} {y : Int} (hp : p ∈ prN) : ∀ (k n : Nat) (w : xW), n + k + 1 = p → CS w → (∀ i, i < n → rI w 51 i ((bwS p i : Nat) : Int)) →
    ∃ w', xGo 251 27 [some (.ref 39), some (.int (jI (p : Int))), some (.int (jI y)), some (.int (jI (n : Int)))] [] w (none, w') ∧ CS w' ∧ xsame [51] w w' ∧ ∀ i, i + 2 ≤ p → rI w' 51 i ((bwS p i : Nat) : Int) := by
  have pb := prN_b p hp
  have po := pr_odd hp
  have pp : p * p ≤ 39601 := Nat.mul_le_mul pb.2 pb.2
  have p9 : 9 ≤ p * p := Nat.mul_le_mul pb.1 pb.1
  have e2 : (p : Int) * p = ((p * p : Nat) : Int) := (Int.natCast_mul p p).symm
  intro k
  induction k with
  | zero =>
    intro n w hn hC H51
    exact ⟨w, Z_251_27 hC ⟨s32, s32, fun _ => rfl, fun q => by omega⟩, hC, xsame.rf, fun i hi => H51 i (by omega)⟩
  | succ k ih =>
    intro n w hn hC H51
    have sm : xsame [51] w (pI w 51 n (jI ((bwS p n : Nat) : Int))) := sm_pI (by decide)
    obtain ⟨w', g1, g2, g3, g4⟩ := ih (n + 1) (pI w 51 n (jI ((bwS p n : Nat) : Int))) (by omega) hC.putI (fun i hi => by
      by_cases z : i = n
      · rw [z]; exact ((kl_51 hC).has (by decide) (by omega)).put
      · exact (H51 i (by omega)).put z)
    refine ⟨w', Z_251_27 hC ⟨s32, s32, fun q => by omega, fun _ => ⟨fun q0 => ⟨fun q1 => ⟨_, tmN (by omega), ⟨by omega, by omega⟩, fun q2 => ?_, fun q2 => ?_⟩, fun q1 => ?_⟩, fun q0 => ?_⟩⟩, g2, sm.trans g3, g4⟩
    · have r := C_powersBy (n := n) (p := p) (M := p * p) (by omega) (by omega) (by omega) (by omega) (by omega) w
      have eb : bwS p n = psum n p % (p * p) / p := by
        unfold bwS
        rw [if_neg (by omega), if_neg (by omega), if_neg (by omega)]
      rw [← eb] at r
      exact ⟨by rw [e2]; exact ⟨by omega, by omega⟩, _, _, by rw [e2]; exact r, hC, ⟨by omega, by omega⟩, fun w13 e13 _ => by rw [e13]; exact g1⟩
    · have eb : bwS p n = 0 := by
        unfold bwS
        rw [if_neg (by omega), if_neg (by omega), if_pos (by omega)]
      rw [eb] at g1
      exact ⟨⟨by omega, by omega⟩, fun w13 e13 _ => by rw [e13]; exact g1⟩
    · have en : n = 1 := by omega
      have eb : ((bwS p n : Nat) : Int) = Int.tdiv ((p : Int) - 1) 2 := by
        rw [tdN (by omega), en, show bwS p 1 = (p - 1) / 2 from rfl]
        omega
      rw [eb] at g1
      exact ⟨s32, _, rfl, ⟨by omega, by omega⟩, fun w13 e13 _ => by rw [e13]; exact g1⟩
    · have en : n = 0 := by omega
      have eb : ((bwS p n : Nat) : Int) = 1 := by rw [en]; rfl
      rw [eb] at g1
      exact ⟨⟨by omega, by omega⟩, fun w13 e13 _ => by rw [e13]; exact g1⟩
theorem C_laysWay {w : xW} (hC : CS w) {p : Nat} {y : Int} (hp : p ∈ prN) (hy : 0 ≤ y ∧ y ≤ 2) : ∃ w', xCall 251 [.ref 39, .int (jI (p : Int)), .int (jI y)] w (none, w') ∧ CS w' ∧ xsame [49, 50, 51, 52] w w' ∧ ∀ i, i + 2 ≤ p → rI w' 51 i ((bwS p i : Nat) : Int) := by
  have pb := prN_b p hp
  by_cases y0 : y = 0
  · obtain ⟨w1, a1, a2, a3, a4⟩ := C_laysAll hC hp
    exact ⟨w1, Z_251 hC ⟨s32, fun q => absurd y0 q, fun _ => ⟨_, a1, a2, rfl⟩⟩, a2, a3, a4⟩
  · by_cases y1 : y = 1
    · obtain ⟨w1, a1, a2, a3, a4⟩ := C_mlaysTri hC hp
      exact ⟨w1, Z_251 hC ⟨s32, fun _ => ⟨fun q => absurd y1 q, fun _ => ⟨_, a1, a2, rfl⟩⟩, fun q => absurd q y0⟩, a2, a3, a4⟩
    · obtain ⟨w1, a1, a2, a3, a4⟩ := L_251 (y := y) hp (p - 1) 0 w (by omega) hC (fun i hi => by omega)
      exact ⟨w1, Z_251 hC ⟨s32, fun _ => ⟨fun _ => a1, fun q => absurd q y1⟩, fun q => absurd q y0⟩, a2, a3.mono (by decide), a4⟩
end M8
