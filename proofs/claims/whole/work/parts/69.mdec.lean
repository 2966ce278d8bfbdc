/-! the model's large numbers, and numbers of kinds -/
def ffI (x : Int) : Nat → Int
  | 0 => 1
  | j + 1 => ffI x j * (x - j)
theorem ff_sh (x : Int) : ∀ j : Nat, ffI (x + 1) (j + 1) = (x + 1) * ffI x j
  | 0 => by
    show 1 * (x + 1 - ((0 : Nat) : Int)) = (x + 1) * 1
    omega
  | j + 1 => by
    have ih := ff_sh x j
    show ffI (x + 1) (j + 1) * (x + 1 - ((j + 1 : Nat) : Int)) = (x + 1) * (ffI x j * (x - (j : Int)))
    rw [ih, show x + 1 - ((j + 1 : Nat) : Int) = x - (j : Int) by omega, Int.mul_assoc]
theorem ff_df (x : Int) (j : Nat) : ffI (x + 1) (j + 1) = ffI x (j + 1) + ((j : Int) + 1) * ffI x j := by
  rw [ff_sh]
  show (x + 1) * ffI x j = ffI x j * (x - (j : Int)) + ((j : Int) + 1) * ffI x j
  rw [Int.mul_comm (ffI x j), ← Int.add_mul, show x - (j : Int) + ((j : Int) + 1) = x + 1 by omega]
theorem ff_00 (j : Nat) : ffI 0 (j + 1) = 0 := by
  have := ff_sh (-1) j
  rw [show (-1 : Int) + 1 = 0 from rfl, Int.zero_mul] at this
  exact this
theorem ff_xm (x : Int) (j : Nat) : x * ffI x j = ffI x (j + 1) + (j : Int) * ffI x j := by
  show x * ffI x j = ffI x j * (x - (j : Int)) + (j : Int) * ffI x j
  rw [Int.mul_comm (ffI x j), ← Int.add_mul, show x - (j : Int) + (j : Int) = x by omega]
def gsI (j : Nat) : Nat → Int
  | 0 => ffI 0 j
  | n + 1 => gsI j n + ffI ((n : Int) + 1) j
theorem gs_ff (j : Nat) : ∀ n : Nat, ((j : Int) + 1) * gsI j n = ffI ((n : Int) + 1) (j + 1)
  | 0 => by
    have e := ff_df 0 j
    rw [ff_00] at e
    show ((j : Int) + 1) * ffI 0 j = ffI (0 + 1) (j + 1)
    rw [e, Int.zero_add (((j : Int) + 1) * ffI 0 j)]
  | n + 1 => by
    have ih := gs_ff j n
    show ((j : Int) + 1) * (gsI j n + ffI ((n : Int) + 1) j) = ffI ((((n + 1 : Nat)) : Int) + 1) (j + 1)
    rw [Int.mul_add, ih, show (((n + 1 : Nat)) : Int) = (n : Int) + 1 by omega, ff_df ((n : Int) + 1) j]
/-! kinds -/
def kdN (prev : Nat → Int) : Nat → Int
  | 0 => 0
  | j + 1 => ((j : Int) + 1) * prev (j + 1) + prev j
def kd : Nat → Nat → Int
  | 0 => fun j => if j = 0 then 1 else 0
  | m + 1 => kdN (kd m)
theorem kd_0 : ∀ m j : Nat, m < j → kd m j = 0
  | 0, j, h => if_neg (by omega)
  | m + 1, 0, h => by omega
  | m + 1, j + 1, h => by
    show ((j : Int) + 1) * kd m (j + 1) + kd m j = 0
    rw [kd_0 m (j + 1) (by omega), kd_0 m j (by omega), Int.mul_zero]; rfl
def pSm (m : Nat) (x : Int) : Nat → Int
  | 0 => 0
  | j + 1 => pSm m x j + kd m j * ffI x j
theorem pSm_s (m : Nat) (x : Int) : ∀ J : Nat, pSm (m + 1) x (J + 1) = x * pSm m x J + (J : Int) * (kd m J * ffI x J)
  | 0 => by
    show 0 + 0 * ffI x 0 = x * 0 + ((0 : Nat) : Int) * _
    simp
  | J + 1 => by
    have ih := pSm_s m x J
    show pSm (m + 1) x (J + 1) + (((J : Int) + 1) * kd m (J + 1) + kd m J) * ffI x (J + 1) = x * (pSm m x J + kd m J * ffI x J) + ((J + 1 : Nat) : Int) * (kd m (J + 1) * ffI x (J + 1))
    rw [ih, Int.mul_add, Int.add_mul]
    have e1 : x * (kd m J * ffI x J) = kd m J * (x * ffI x J) := by ac_rfl
    have e2 : ((J + 1 : Nat) : Int) * (kd m (J + 1) * ffI x (J + 1)) = ((J : Int) + 1) * kd m (J + 1) * ffI x (J + 1) := by rw [Int.mul_assoc]; rfl
    have e3 : (J : Int) * (kd m J * ffI x J) = kd m J * ((J : Int) * ffI x J) := by ac_rfl
    rw [e1, e2, e3, ff_xm, Int.mul_add]
    omega
theorem pSm_e (x : Int) : ∀ m : Nat, pSm m x (m + 1) = x ^ m
  | 0 => by
    show 0 + (if (0 : Nat) = 0 then (1 : Int) else 0) * 1 = x ^ 0
    rw [Int.pow_zero, if_pos rfl]; rfl
  | m + 1 => by
    rw [pSm_s, pSm_e x m, kd_0 m (m + 1) (by omega), Int.zero_mul, Int.mul_zero, Int.add_zero, Int.pow_succ, Int.mul_comm]
def fSm (m n : Nat) : Nat → Int
  | 0 => 0
  | j + 1 => fSm m n j + kd m (j + 1) * gsI (j + 1) n
theorem fSm_n (m n : Nat) (hm : 1 ≤ m) : ∀ J : Nat, fSm m (n + 1) J = fSm m n J + pSm m ((n : Int) + 1) (J + 1)
  | 0 => by
    show (0 : Int) = 0 + (0 + kd m 0 * 1)
    have : kd m 0 = 0 := by
      obtain ⟨k, rfl⟩ : ∃ k, m = k + 1 := ⟨m - 1, by omega⟩
      rfl
    rw [this]; rfl
  | J + 1 => by
    have ih := fSm_n m n hm J
    show fSm m (n + 1) J + kd m (J + 1) * (gsI (J + 1) n + ffI ((n : Int) + 1) (J + 1)) = fSm m n J + kd m (J + 1) * gsI (J + 1) n + (pSm m ((n : Int) + 1) (J + 1) + kd m (J + 1) * ffI ((n : Int) + 1) (J + 1))
    rw [ih, Int.mul_add]
    omega
theorem fSm_0 (m : Nat) : ∀ J : Nat, fSm m 0 J = 0
  | 0 => rfl
  | J + 1 => by
    show fSm m 0 J + kd m (J + 1) * ffI 0 (J + 1) = 0
    rw [fSm_0 m J, ff_00, Int.mul_zero]; rfl
theorem fSm_p {m : Nat} (hm : 1 ≤ m) : ∀ n : Nat, fSm m n m = pwS m n
  | 0 => fSm_0 m m
  | n + 1 => by
    rw [fSm_n m n hm, fSm_p hm n, pSm_e]; rfl
theorem ff_z {n j : Nat} (h : n < j) : ffI (n : Int) j = 0 := by
  have : ∀ d : Nat, ffI (n : Int) (n + 1 + d) = 0 := by
    intro d
    induction d with
    | zero =>
      show ffI (n : Int) n * ((n : Int) - ((n : Nat) : Int)) = 0
      rw [Int.sub_self, Int.mul_zero]
    | succ d ih =>
      show ffI (n : Int) (n + 1 + d) * _ = 0
      rw [ih, Int.zero_mul]
  have e := this (j - (n + 1))
  rw [show n + 1 + (j - (n + 1)) = j by omega] at e
  exact e
theorem gs_z {n j : Nat} (h : n < j) : gsI j n = 0 := by
  have a := gs_ff j n
  have b := ff_z (n := n + 1) (j := j + 1) (by omega)
  rw [show ((n + 1 : Nat) : Int) = (n : Int) + 1 by omega] at b
  rw [b] at a
  rcases Int.mul_eq_zero.mp a with z | z
  · omega
  · exact z
theorem fSm_keep (m n : Nat) : ∀ d j : Nat, n ≤ j → fSm m n (j + d) = fSm m n j
  | 0, j, _ => rfl
  | d + 1, j, h => by
    show fSm m n (j + d) + kd m (j + d + 1) * gsI (j + d + 1) n = fSm m n j
    rw [gs_z (by omega), Int.mul_zero, Int.add_zero]
    exact fSm_keep m n d j h
theorem ff_nn {n : Nat} : ∀ j : Nat, j ≤ n + 1 → 0 ≤ ffI ((n : Int) + 1) j ∧ ffI ((n : Int) + 1) j ≤ ((n : Int) + 1) ^ j
  | 0, _ => by rw [Int.pow_zero]; exact ⟨show (0 : Int) ≤ 1 by decide, Int.le_refl 1⟩
  | j + 1, h => by
    have ih := ff_nn (n := n) j (by omega)
    rw [Int.pow_succ]
    show 0 ≤ ffI ((n : Int) + 1) j * ((n : Int) + 1 - (j : Int)) ∧ ffI ((n : Int) + 1) j * ((n : Int) + 1 - (j : Int)) ≤ ((n : Int) + 1) ^ j * ((n : Int) + 1)
    exact ⟨Int.mul_nonneg ih.1 (by omega), Int.mul_le_mul ih.2 (by omega) (by omega) (Int.le_trans ih.1 ih.2)⟩
theorem p25 : ∀ i : Nat, i < 27 → (1000000001 : Int) ^ i < 1000000000 ^ 32 := by decide +kernel
theorem ff_dq {n j : Nat} (n9 : n ≤ 1000000000) (hj : j ≤ n + 1) (j25 : j ≤ 26) : dq (ffI ((n : Int) + 1) j) 32 = 0 := by
  have a := ff_nn (n := n) j hj
  have p := pw_le (b := (n : Int) + 1) (B := 1000000001) (by omega) (by omega) j
  have q := p25 j (by omega)
  exact dq_0 32 _ a.1 (by omega)
/-! kinds are not too large -/
def kst : Nat → List Int → List Int
  | j, a :: b :: l => (((j : Int) + 1) * b + a) :: kst (j + 1) (b :: l)
  | _, _ => []
theorem kst_get : ∀ (l : List Int) (j i : Nat) (a b : Int), l[i]? = some a → l[i + 1]? = some b → (kst j l)[i]? = some ((((j + i : Nat) : Int) + 1) * b + a)
  | [], j, i, a, b, h1, h2 => by simp at h1
  | [x], j, i, a, b, h1, h2 => by simp at h2
  | x :: y :: l, j, 0, a, b, h1, h2 => by
    have e1 : x = a := by simpa using h1
    have e2 : y = b := by simpa using h2
    rw [← e1, ← e2]; rfl
  | x :: y :: l, j, i + 1, a, b, h1, h2 => by
    have ih := kst_get (y :: l) (j + 1) i a b (by simpa using h1) (by simpa using h2)
    rw [show j + (i + 1) = j + 1 + i by omega]
    exact ih
def kdl : Nat → List Int
  | 0 => 1 :: List.replicate 25 0
  | m + 1 => 0 :: kst 0 (kdl m)
theorem kdl_get : ∀ m j : Nat, j < 26 → (kdl m)[j]? = some (kd m j)
  | 0, 0, _ => rfl
  | 0, j + 1, h => by
    show (List.replicate 25 (0 : Int))[j]? = some 0
    rw [List.getElem?_replicate, if_pos (by omega)]
  | m + 1, 0, _ => rfl
  | m + 1, j + 1, h => by
    have a := kst_get (kdl m) 0 j _ _ (kdl_get m j (by omega)) (kdl_get m (j + 1) (by omega))
    rw [Nat.zero_add] at a
    exact a
theorem kdl_b : ∀ m : Nat, m < 25 → ∀ x ∈ kdl m, 0 ≤ x ∧ x ≤ 900000000000000000 := by decide +kernel
theorem kd_b {m j : Nat} (hm : m < 25) (hj : j < 26) : 0 ≤ kd m j ∧ kd m j ≤ 900000000000000000 := kdl_b m hm _ (List.mem_of_getElem? (kdl_get m j hj))
section D9
variable {c : Nat} {E : eT} {t : Int} {ws : Nat → Int} {me : memT} {w : xW}
theorem L_282a {m : Int} : ∀ (k i : Nat) (w : xW), i + k = 26 → CS w → (∀ j, j < i → rL w 58 j (kd 0 j)) →
    ∃ w', CS w' ∧ xsame [58] w w' ∧ (∀ j, j < 26 → rL w' 58 j (kd 0 j)) ∧ ∀ s, xGo 282 31 [some (.ref 39), some (.int (jI m)), some (.int (jI 1)), none] [] w' s → xGo 282 2 [some (.ref 39), some (.int (jI m)), some (.int (jI (i : Int))), none] [] w s := by
  intro k
  induction k with
  | zero =>
    intro i w hi hC H
    exact ⟨w, hC, xsame.rf, fun j hj => H j (by omega), fun s g => Z_282_2 hC ⟨s32, fun _ => g, fun q => by omega⟩⟩
  | succ k ih =>
    intro i w hi hC H
    have sm : xsame [58] w (pL w 58 i (jL (kd 0 i))) := sm_pL (by decide)
    obtain ⟨w', g1, g2, g3, g4⟩ := ih (i + 1) (pL w 58 i (jL (kd 0 i))) (by omega) hC.putL (fun j hj => by
      by_cases z : j = i
      · rw [z]; exact ((kl_58 hC).has (by decide) (by omega)).put
      · exact (H j (by omega)).put z)
    refine ⟨w', g1, sm.trans g2, g3, fun s g => Z_282_2 hC ⟨s32, fun q => by omega, fun _ => ⟨fun q => ⟨⟨by omega, by omega⟩, fun w4 e4 _ => ?_⟩, fun q => ⟨⟨by omega, by omega⟩, fun w8 e8 _ => ?_⟩⟩⟩⟩
    · have e : kd 0 i = 0 := if_neg (by omega)
      rw [e] at g4
      rw [e4]; exact g4 s g
    · have e : kd 0 i = 1 := if_pos (by omega)
      rw [e] at g4
      rw [e8]; exact g4 s g
theorem L_282b {m r : Nat} (hm : m ≤ 24) (hr : r + 1 ≤ m) : ∀ (j : Nat) (w : xW), j ≤ r + 1 → CS w → (∀ i, i < 26 → rL w 58 i (if j < i then kd (r + 1) i else kd r i)) →
    ∃ w', CS w' ∧ xsame [58] w w' ∧ (∀ i, i < 26 → rL w' 58 i (kd (r + 1) i)) ∧ ∀ s, xGo 282 31 [some (.ref 39), some (.int (jI (m : Int))), some (.int (jI (((r + 1 : Nat) : Int) + 1))), none] [] w' s → xGo 282 38 [some (.ref 39), some (.int (jI (m : Int))), some (.int (jI ((r + 1 : Nat) : Int))), some (.int (jI (j : Int)))] [] w s := by
  intro j
  induction j with
  | zero =>
    intro w hj hC H
    have sm : xsame [58] w (pL w 58 0 (jL 0)) := sm_pL (by decide)
    refine ⟨pL w 58 0 (jL 0), hC.putL, sm, fun i hi => ?_, fun s g => Z_282_38 hC ⟨s32, fun _ w3 e3 _ => by rw [e3]; exact g, fun q => by omega⟩⟩
    by_cases z : i = 0
    · rw [z]; exact ((kl_58 hC).has (by decide) (by omega)).put
    · have := H i hi
      rw [if_pos (by omega)] at this
      exact this.put z
  | succ j ih =>
    intro w hj hC H
    have a := H (j + 1) (by omega)
    have b := H j (by omega)
    rw [if_neg (by omega)] at a b
    have sm : xsame [58] w (pL w 58 (j + 1) (jL (kd (r + 1) (j + 1)))) := sm_pL (by decide)
    obtain ⟨w', g1, g2, g3, g4⟩ := ih (pL w 58 (j + 1) (jL (kd (r + 1) (j + 1)))) (by omega) hC.putL (fun i hi => by
      by_cases z : i = j + 1
      · rw [z, if_pos (by omega)]; exact ((kl_58 hC).has (by decide) (by omega)).put
      · have := H i hi
        by_cases y : j < i
        · rw [if_pos y]; rw [if_pos (by omega)] at this; exact this.put z
        · rw [if_neg y]; rw [if_neg (by omega)] at this; exact this.put z)
    refine ⟨w', g1, sm.trans g2, g3, fun s g => Z_282_38 hC ⟨s32, fun q => by omega, fun _ => ⟨by omega, _, a, by omega, _, (by rw [show (((j + 1 : Nat) : Int) - 1).toNat = j by omega]; exact b), ⟨by omega, by omega⟩, fun w13 e13 _ => ?_⟩⟩⟩
    rw [e13, show (((j + 1 : Nat) : Int) - 1) = (j : Int) by omega]
    exact g4 s g
theorem L_282 {m : Nat} (hm : m ≤ 24) : ∀ (k r : Nat) (w : xW), r + k = m → CS w → (∀ i, i < 26 → rL w 58 i (kd r i)) →
    ∃ w', xGo 282 31 [some (.ref 39), some (.int (jI (m : Int))), some (.int (jI ((r : Int) + 1))), none] [] w (none, w') ∧ CS w' ∧ xsame [58] w w' ∧ (∀ i, i < 26 → rL w' 58 i (kd m i)) := by
  intro k
  induction k with
  | zero =>
    intro r w hr hC H
    have e : r = m := by omega
    subst e
    exact ⟨w, Z_282_31 hC ⟨s32, s32, fun _ => rfl, fun q => by omega⟩, hC, xsame.rf, H⟩
  | succ k ih =>
    intro r w hr hC H
    obtain ⟨w1, a1, a2, a3, a4⟩ := L_282b hm (r := r) (by omega) (r + 1) w (by omega) hC (fun i hi => by
      by_cases y : r + 1 < i
      · rw [if_pos y]
        have := H i hi
        rw [kd_0 r i (by omega)] at this
        rw [kd_0 (r + 1) i y]; exact this
      · rw [if_neg y]; exact H i hi)
    obtain ⟨w2, b1, b2, b3, b4⟩ := ih (r + 1) w1 (by omega) a1 a3
    exact ⟨w2, Z_282_31 hC ⟨s32, s32, fun q => by omega, fun _ => a4 _ b1⟩, b2, a2.trans b3, b4⟩
theorem C_laysKinds {w : xW} (hC : CS w) {m : Nat} (hm : m ≤ 24) : ∃ w', xCall 282 [.ref 39, .int (jI (m : Int))] w (none, w') ∧ CS w' ∧ xsame [58] w w' ∧ (∀ i, i < 26 → rL w' 58 i (kd m i)) := by
  obtain ⟨w1, a1, a2, a3, a4⟩ := L_282a (m := (m : Int)) 26 0 w rfl hC (fun j hj => by omega)
  obtain ⟨w2, b1, b2, b3, b4⟩ := L_282 hm m 0 w1 (by omega) a1 a3
  exact ⟨w2, Z_282 hC (a4 _ b1), b2, a2.trans b3, b4⟩
/-! times -/
theorem L_283 {V f : Int} (f0 : 0 ≤ f) (f1 : f ≤ 1000000001) : ∀ (k i : Nat) (w : xW) (c : Int), i + k = 32 → CS w → c = dq (V * f) i - dq V i * f → 0 ≤ c → c ≤ 2000000000 → (∀ j, j < i → rL w 57 j (dq (V * f) j % 1000000000)) → (∀ j, i ≤ j → j < 32 → rL w 57 j (dq V j % 1000000000)) →
    ∃ w', xGo 283 5 [some (.ref 39), some (.long (jL f)), none, some (.long (jL c)), none, some (.int (jI (i : Int))), none, none] [] w (none, w') ∧ CS w' ∧ xsame [57] w w' ∧ bn w' 57 32 (V * f) := by
  intro k
  induction k with
  | zero =>
    intro i w c hi hC hc c0 c1 H1 H2
    exact ⟨w, Z_283_5 hC ⟨s32, fun _ => rfl, fun q => by omega⟩, hC, xsame.rf, fun j hj => H1 j (by omega)⟩
  | succ k ih =>
    intro i w c hi hC hc c0 c1 H1 H2
    obtain ⟨m1, m2⟩ := md_al hc
    have xb := lm_b V i
    have xf := mul_b xb.1 (show dq V i % 1000000000 ≤ 999999999 by omega) f0 f1
    have c2 : dq (V * f) (i + 1) - dq V (i + 1) * f = (dq V i % 1000000000 * f + c) / 1000000000 := by rw [m2]; rfl
    have sm : xsame [57] w (pL w 57 i (jL (dq (V * f) i % 1000000000))) := sm_pL (by decide)
    obtain ⟨w', g1, g2, g3, g4⟩ := ih (i + 1) (pL w 57 i (jL (dq (V * f) i % 1000000000))) ((dq V i % 1000000000 * f + c) / 1000000000) (by omega) hC.putL c2.symm (by omega) (by omega) (fun j hj => by
      by_cases z : j = i
      · rw [z]; exact ((kl_57 hC).has (by decide) (by omega)).put
      · exact (H1 j (by omega)).put z) (fun j h1 h2 => (H2 j (by omega) h2).put (by omega))
    refine ⟨w', Z_283_5 hC ⟨s32, fun q => by omega, fun _ => ⟨by omega, _, H2 i (Nat.le_refl i) (by omega), ⟨by omega, by omega⟩, _, tmN (by omega), ⟨by omega, by omega⟩, fun w10 e10 _ => ⟨_, tdN (by omega), ?_⟩⟩⟩, g2, sm.trans g3, g4⟩
    rw [e10, m1]
    exact g1
theorem C_times {w : xW} (hC : CS w) {V f : Int} (f0 : 0 ≤ f) (f1 : f ≤ 1000000001) (H : bn w 57 32 V) : ∃ w', xCall 283 [.ref 39, .long (jL f)] w (none, w') ∧ CS w' ∧ xsame [57] w w' ∧ bn w' 57 32 (V * f) := by
  obtain ⟨w', g1, g2, g3, g4⟩ := L_283 (V := V) (f := f) f0 f1 32 0 w 0 rfl hC (by show 0 = V * f - V * f; omega) (by decide) (by decide) (fun j hj => by omega) (fun j _ hj => H j hj)
  exact ⟨w', Z_283 hC g1, g2, g3, g4⟩
/-! a row by a number, so often, so many places up -/
theorem L_284a {V b o u : Int} (hb : 0 < b) (b1 : b ≤ 1000) : ∀ (i : Nat) (w : xW), i ≤ 32 → CS w → bn w 57 32 V → (∀ j, i ≤ j → j < 32 → rL w 59 j (dq (V / b) j % 1000000000)) →
    ∃ (w' : xW) (z : Int), CS w' ∧ xsame [59] w w' ∧ bn w' 59 32 (V / b) ∧ ∀ r, xGo 284 59 [some (.ref 39), some (.int (jI b)), some (.long (jL o)), none, some (.int (jI u)), some (.long (jL z)), none, some (.long (jL 0)), none, some (.int (jI 0)), none, none] [] w' r → xGo 284 10 [some (.ref 39), some (.int (jI b)), some (.long (jL o)), none, some (.int (jI u)), some (.long (jL (dq V i % b))), none, some (.long (jL 0)), none, some (.int (jI ((i : Int) - 1))), none, none] [] w r := by
  intro i
  induction i with
  | zero =>
    intro w hi hC H0 H1
    exact ⟨w, _, hC, xsame.rf, fun j hj => H1 j (by omega) hj, fun r g => Z_284_10 hC ⟨s32, fun _ => g, fun q => by omega⟩⟩
  | succ i ih =>
    intro w hi hC H0 H1
    have a := dv_al (v := dq V i) hb
    have r0 := Int.emod_nonneg (dq V (i + 1)) (show b ≠ 0 by omega)
    have r1 := Int.emod_lt_of_pos (dq V (i + 1)) hb
    have xb := lm_b V i
    have eq : dq (V / b) i % 1000000000 = (dq V (i + 1) % b * 1000000000 + dq V i % 1000000000) / b := by rw [dq_div hb]; exact a.1.symm
    have er : dq V i % b = (dq V (i + 1) % b * 1000000000 + dq V i % 1000000000) % b := a.2.symm
    have sm : xsame [59] w (pL w 59 i (jL ((dq V (i + 1) % b * 1000000000 + dq V i % 1000000000) / b))) := sm_pL (by decide)
    obtain ⟨w', z, g1, g2, g3, g4⟩ := ih (pL w 59 i (jL ((dq V (i + 1) % b * 1000000000 + dq V i % 1000000000) / b))) (by omega) hC.putL (H0.sm sm (by decide)) (fun j h1 h2 => by
      by_cases z : j = i
      · rw [z, eq]; exact ((kl_59 hC).has (by decide) (by omega)).put
      · exact (H1 j (by omega) h2).put z)
    rw [er] at g4
    rw [show (((i + 1 : Nat) : Int) - 1) = (i : Int) by omega]
    exact ⟨w', z, g1, sm.trans g2, g3, fun r g => Z_284_10 hC ⟨s32, fun q => by omega, fun _ => ⟨by omega, _, H0 i (by omega), ⟨by omega, by omega⟩, ⟨by omega, by omega⟩, by omega, _, tdN (by omega), ⟨by omega, by omega⟩, fun w12 e12 _ => ⟨by omega, _, tmN (by omega), by rw [e12]; exact g4 r g⟩⟩⟩⟩
theorem ad_al {f q g o c : Int} (hc : c = g - f - q * o) : (f % 1000000000 + q % 1000000000 * o + c) % 1000000000 = g % 1000000000 ∧ (f % 1000000000 + q % 1000000000 * o + c) / 1000000000 = g / 1000000000 - f / 1000000000 - q / 1000000000 * o := by
  have s : q * o = q / 1000000000 * o * 1000000000 + q % 1000000000 * o := by
    have d := dm_e q 1000000000
    have t : q * o = (q / 1000000000 * 1000000000 + q % 1000000000) * o := by rw [← d]
    rw [t, Int.add_mul]
    congr 1
    ac_rfl
  have e : f % 1000000000 + q % 1000000000 * o + c = g + 1000000000 * (-(f / 1000000000) - q / 1000000000 * o) := by omega
  rw [e]
  exact ⟨by omega, by omega⟩
theorem L_284b {F G Q b o z5 : Int} {u : Nat} (o0 : 0 ≤ o) (o1 : o ≤ 1000000000) (hu : u ≤ 1) : ∀ (k i : Nat) (w : xW) (c : Int), i + u + k = 32 → CS w → c = dq G (i + u) - dq F (i + u) - dq Q i * o → 0 ≤ c → c ≤ 2000000000 → bn w 59 32 Q → (∀ j, j < i + u → rL w 56 j (dq G j % 1000000000)) → (∀ j, i + u ≤ j → j < 32 → rL w 56 j (dq F j % 1000000000)) →
    ∃ w', xGo 284 59 [some (.ref 39), some (.int (jI b)), some (.long (jL o)), none, some (.int (jI (u : Int))), some (.long (jL z5)), none, some (.long (jL c)), none, some (.int (jI (i : Int))), none, none] [] w (none, w') ∧ CS w' ∧ xsame [56] w w' ∧ bn w' 56 32 G := by
  intro k
  induction k with
  | zero =>
    intro i w c hi hC hc c0 c1 HQ H1 H2
    exact ⟨w, Z_284_59 hC ⟨s32, fun _ => rfl, fun q => by omega⟩, hC, xsame.rf, fun j hj => H1 j (by omega)⟩
  | succ k ih =>
    intro i w c hi hC hc c0 c1 HQ H1 H2
    obtain ⟨m1, m2⟩ := ad_al hc
    have xb := lm_b F (i + u)
    have qb := lm_b Q i
    have qo := mul_b qb.1 (show dq Q i % 1000000000 ≤ 1000000000 by omega) o0 o1
    have c2 : dq G (i + 1 + u) - dq F (i + 1 + u) - dq Q (i + 1) * o = (dq F (i + u) % 1000000000 + dq Q i % 1000000000 * o + c) / 1000000000 := by
      rw [m2, show i + 1 + u = i + u + 1 by omega]; rfl
    have sm : xsame [56] w (pL w 56 (i + u) (jL (dq G (i + u) % 1000000000))) := sm_pL (by decide)
    obtain ⟨w', g1, g2, g3, g4⟩ := ih (i + 1) (pL w 56 (i + u) (jL (dq G (i + u) % 1000000000))) ((dq F (i + u) % 1000000000 + dq Q i % 1000000000 * o + c) / 1000000000) (by omega) hC.putL c2.symm (by omega) (by omega) (HQ.sm sm (by decide)) (fun j hj => by
      by_cases z : j = i + u
      · rw [z]; exact ((kl_56 hC).has (by decide) (by omega)).put
      · exact (H1 j (by omega)).put z) (fun j h1 h2 => (H2 j (by omega) h2).put (by omega))
    refine ⟨w', Z_284_59 hC ⟨s32, fun q => by omega, fun _ => ⟨by omega, _, (by rw [show ((i : Int) + (u : Int)).toNat = i + u by omega]; exact H2 (i + u) (Nat.le_refl _) (by omega)), by omega, _, HQ i (by omega), ⟨by omega, by omega⟩, _, tmN (by omega), ⟨by omega, by omega⟩, fun w13 e13 _ => ⟨_, tdN (by omega), ?_⟩⟩⟩, g2, sm.trans g3, g4⟩
    rw [e13, m1, show ((i : Int) + (u : Int)).toNat = i + u by omega]
    exact g1
theorem C_addsRow {w : xW} (hC : CS w) {V F b o : Int} {u : Nat} (hb : 0 < b) (b1 : b ≤ 1000) (o0 : 0 ≤ o) (o1 : o ≤ 1000000000) (hu : u ≤ 1) (hV : dq V 32 = 0) (H1 : bn w 57 32 V) (H2 : bn w 56 32 F) : ∃ w', xCall 284 [.ref 39, .int (jI b), .long (jL o), .int (jI (u : Int))] w (none, w') ∧ CS w' ∧ xsame [56, 59] w w' ∧ bn w' 56 32 (F + V / b * o * (if u = 0 then 1 else 1000000000)) := by
  obtain ⟨w1, z, a1, a2, a3, a4⟩ := L_284a (o := o) (u := (u : Int)) hb b1 32 w (Nat.le_refl _) hC H1 (fun j p q => by omega)
  rw [hV, Int.zero_emod] at a4
  have base : (0 : Int) = dq (F + V / b * o * (if u = 0 then 1 else 1000000000)) (0 + u) - dq F (0 + u) - dq (V / b) 0 * o := by
    by_cases u0 : u = 0
    · subst u0
      rw [if_pos rfl, Int.mul_one]
      show 0 = F + V / b * o - F - V / b * o
      omega
    · have u1 : u = 1 := by omega
      subst u1
      rw [if_neg (by decide)]
      show 0 = (F + V / b * o * 1000000000) / 1000000000 - F / 1000000000 - V / b * o
      omega
  obtain ⟨w2, b1', b2, b3, b4⟩ := L_284b (F := F) (G := F + V / b * o * (if u = 0 then 1 else 1000000000)) (Q := V / b) (b := b) (z5 := z) (u := u) o0 o1 hu (32 - u) 0 w1 0 (by omega) a1 base (by decide) (by decide) a3 (fun j hj => by
    have u1 : u = 1 := by omega
    have j0 : j = 0 := by omega
    subst u1 j0
    rw [if_neg (by decide)]
    show rL w1 56 0 ((F + V / b * o * 1000000000) % 1000000000)
    rw [show (F + V / b * o * 1000000000) % 1000000000 = F % 1000000000 by omega]
    exact (H2 0 (by decide)).sm a2 (by decide)) (fun j h1 h2 => (H2 j h2).sm a2 (by decide))
  exact ⟨w2, Z_284 hC (a4 _ b1'), b2, (a2.mono (by decide)).trans (b3.mono (by decide)), b4⟩
end D9
