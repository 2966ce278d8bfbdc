/-! large numbers in limbs of 1000000000; sums of powers are what the polynomials say -/
def dq (V : Int) : Nat → Int
  | 0 => V
  | i + 1 => dq V i / 1000000000
theorem dq_s (V : Int) : ∀ i : Nat, dq V (i + 1) = dq (V / 1000000000) i
  | 0 => rfl
  | i + 1 => by
    show dq V (i + 1) / 1000000000 = dq (V / 1000000000) i / 1000000000
    rw [dq_s V i]
theorem dq_0 : ∀ (i : Nat) (V : Int), 0 ≤ V → V < 1000000000 ^ i → dq V i = 0
  | 0, V, h0, h1 => by
    rw [Int.pow_zero] at h1
    show V = 0
    omega
  | i + 1, V, h0, h1 => by
    rw [dq_s]
    refine dq_0 i _ (Int.ediv_nonneg h0 (by decide)) (Int.ediv_lt_of_lt_mul (by decide) ?_)
    rw [← Int.pow_succ]
    exact h1
theorem dq_nn {V : Int} (h : 0 ≤ V) : ∀ i : Nat, 0 ≤ dq V i
  | 0 => h
  | i + 1 => Int.ediv_nonneg (dq_nn h i) (by decide)
theorem dq_div {V b : Int} (hb : 0 < b) : ∀ i : Nat, dq (V / b) i = dq V i / b
  | 0 => rfl
  | i + 1 => by
    show dq (V / b) i / 1000000000 = dq V i / 1000000000 / b
    rw [dq_div hb i, Int.ediv_ediv_of_nonneg (by omega), Int.ediv_ediv_of_nonneg (by decide), Int.mul_comm]
def bn (w : xW) (a L : Nat) (V : Int) : Prop := ∀ k, k < L → rL w a k (dq V k % 1000000000)
theorem bn.sm {w w' : xW} {a L : Nat} {V : Int} {S : List Nat} (h : bn w a L V) (hs : xsame S w w') (ha : a ∉ S) : bn w' a L V := fun k hk => (h k hk).sm hs ha
theorem lm_b (V : Int) (k : Nat) : 0 ≤ dq V k % 1000000000 ∧ dq V k % 1000000000 < 1000000000 := by omega
theorem md_al {v w f c : Int} (hc : c = w - v * f) : (v % 1000000000 * f + c) % 1000000000 = w % 1000000000 ∧ (v % 1000000000 * f + c) / 1000000000 = w / 1000000000 - v / 1000000000 * f := by
  have e : v % 1000000000 * f + c = w + 1000000000 * (-(v / 1000000000 * f)) := by
    have d : v = v / 1000000000 * 1000000000 + v % 1000000000 := dm_e v 1000000000
    have s : v * f = v / 1000000000 * f * 1000000000 + v % 1000000000 * f := by
      have t : v * f = (v / 1000000000 * 1000000000 + v % 1000000000) * f := by rw [← d]
      rw [t, Int.add_mul]
      congr 1
      ac_rfl
    omega
  rw [e]
  exact ⟨by omega, by omega⟩
theorem L_158 {V f a : Int} (f0 : 0 ≤ f) (f1 : f ≤ 1000000000) : ∀ (k i : Nat) (w : xW) (c : Int), i + k = 28 → CS w → c = dq (V * f + a) i - dq V i * f → -8000000000000000000 ≤ c → c ≤ 8000000000000000000 → (∀ j, j < i → rL w 35 j (dq (V * f + a) j % 1000000000)) → (∀ j, i ≤ j → j < 28 → rL w 35 j (dq V j % 1000000000)) →
    ∃ w', xGo 158 6 [some (.ref 34), some (.long (jL f)), none, some (.long (jL a)), none, some (.long (jL c)), none, some (.int (jI (i : Int))), none, none] [] w (none, w') ∧ CS w' ∧ xsame [35] w w' ∧ bn w' 35 28 (V * f + a) := by
  intro k
  induction k with
  | zero =>
    intro i w c hi hC hc c0 c1 H1 H2
    exact ⟨w, Z_158_6 hC ⟨s32, fun _ => rfl, fun q => by omega⟩, hC, xsame.rf, fun j hj => H1 j (by omega)⟩
  | succ k ih =>
    intro i w c hi hC hc c0 c1 H1 H2
    obtain ⟨m1, m2⟩ := md_al hc
    have xb := lm_b V i
    have xf := mul_b xb.1 (show dq V i % 1000000000 ≤ 1000000000 by omega) f0 f1
    have l64 : in64 (dq V i % 1000000000 * f + c) := ⟨by omega, by omega⟩
    have c2 : dq (V * f + a) (i + 1) - dq V (i + 1) * f = (dq V i % 1000000000 * f + c) / 1000000000 := by rw [m2]; rfl
    have sm : xsame [35] w (pL w 35 i (jL (dq (V * f + a) i % 1000000000))) := sm_pL (by decide)
    obtain ⟨w', g1, g2, g3, g4⟩ := ih (i + 1) (pL w 35 i (jL (dq (V * f + a) i % 1000000000))) ((dq V i % 1000000000 * f + c) / 1000000000) (by omega) hC.putL c2.symm (by omega) (by omega) (fun j hj => by
      by_cases z : j = i
      · rw [z]; exact ((kl_35 hC).has (by decide) (by omega)).put
      · exact (H1 j (by omega)).put z) (fun j h1 h2 => (H2 j (by omega) h2).put (by omega))
    refine ⟨w', Z_158_6 hC ⟨s32, fun q => by omega, fun _ => ⟨by omega, _, H2 i (Nat.le_refl i) (by omega), _, _, C_floorMod l64 (b := 1000000000) s64 (by decide) w, hC, ⟨by omega, by omega⟩, fun w11 e11 h11 => ⟨_, _, C_floorDiv l64 (b := 1000000000) s64 (by decide) w11, h11, ?_⟩⟩⟩, g2, sm.trans g3, g4⟩
    rw [e11, m1]
    exact g1
theorem C_mulAdd {w : xW} (hC : CS w) {V f a : Int} (f0 : 0 ≤ f) (f1 : f ≤ 1000000000) (a0 : -8000000000000000000 ≤ a) (a1 : a ≤ 8000000000000000000) (H : bn w 35 28 V) : ∃ w', xCall 158 [.ref 34, .long (jL f), .long (jL a)] w (none, w') ∧ CS w' ∧ xsame [35] w w' ∧ bn w' 35 28 (V * f + a) := by
  obtain ⟨w', g1, g2, g3, g4⟩ := L_158 (V := V) (f := f) (a := a) f0 f1 28 0 w a rfl hC (by show a = V * f + a - V * f; omega) a0 a1 (fun j hj => by omega) (fun j _ hj => H j hj)
  exact ⟨w', Z_158 hC g1, g2, g3, g4⟩
theorem dv_al {v b : Int} (hb : 0 < b) : (v / 1000000000 % b * 1000000000 + v % 1000000000) / b = v / b % 1000000000 ∧ (v / 1000000000 % b * 1000000000 + v % 1000000000) % b = v % b := by
  have d1 := dm_e v 1000000000
  have d2 := dm_e (v / 1000000000) b
  have r0 := Int.emod_nonneg (v / 1000000000) (show b ≠ 0 by omega)
  have r1 := Int.emod_lt_of_pos (v / 1000000000) hb
  have x0 := Int.emod_nonneg v (show (1000000000 : Int) ≠ 0 by decide)
  have x1 := Int.emod_lt_of_pos v (show (0 : Int) < 1000000000 by decide)
  have e : v = b * (v / 1000000000 / b * 1000000000) + (v / 1000000000 % b * 1000000000 + v % 1000000000) := by
    have s : b * (v / 1000000000 / b * 1000000000) = v / 1000000000 / b * b * 1000000000 := by ac_rfl
    rw [s]
    omega
  have q0 : 0 ≤ (v / 1000000000 % b * 1000000000 + v % 1000000000) / b := Int.ediv_nonneg (by omega) (by omega)
  have q1 : (v / 1000000000 % b * 1000000000 + v % 1000000000) / b < 1000000000 := by
    refine Int.ediv_lt_of_lt_mul hb ?_
    have : (v / 1000000000 % b + 1) * 1000000000 ≤ b * 1000000000 := Int.mul_le_mul_of_nonneg_right (by omega) (by decide)
    omega
  have f1 : v / b = v / 1000000000 / b * 1000000000 + (v / 1000000000 % b * 1000000000 + v % 1000000000) / b := by
    have this : v / b = (b * (v / 1000000000 / b * 1000000000) + (v / 1000000000 % b * 1000000000 + v % 1000000000)) / b := congrArg (fun z => z / b) e
    rw [Int.mul_add_ediv_left _ _ (by omega)] at this
    exact this
  have f2 : v % b = (v / 1000000000 % b * 1000000000 + v % 1000000000) % b := by
    have this : v % b = (b * (v / 1000000000 / b * 1000000000) + (v / 1000000000 % b * 1000000000 + v % 1000000000)) % b := congrArg (fun z => z % b) e
    rw [Int.mul_add_emod_self_left] at this
    exact this
  exact ⟨by rw [f1]; omega, f2.symm⟩
theorem L_159 {V b : Int} (hb : 0 < b) (b1 : b ≤ 1000000000) : ∀ (i : Nat) (w : xW), i ≤ 28 → CS w → (∀ j, i ≤ j → j < 28 → rL w 35 j (dq (V / b) j % 1000000000)) → (∀ j, j < i → rL w 35 j (dq V j % 1000000000)) →
    ∃ w', xGo 159 13 [some (.ref 34), some (.long (jL b)), none, some (.long (jL (dq V i % b))), none, some (.int (jI ((i : Int) - 1))), none, none] [] w (none, w') ∧ CS w' ∧ xsame [35] w w' ∧ bn w' 35 28 (V / b) := by
  intro i
  induction i with
  | zero =>
    intro w hi hC H1 H2
    exact ⟨w, Z_159_13 hC ⟨s32, fun _ => rfl, fun q => by omega⟩, hC, xsame.rf, fun j hj => H1 j (by omega) hj⟩
  | succ i ih =>
    intro w hi hC H1 H2
    have a := dv_al (v := dq V i) hb
    have r0 := Int.emod_nonneg (dq V (i + 1)) (show b ≠ 0 by omega)
    have r1 := Int.emod_lt_of_pos (dq V (i + 1)) hb
    have xb := lm_b V i
    have eq : dq (V / b) i % 1000000000 = (dq V (i + 1) % b * 1000000000 + dq V i % 1000000000) / b := by rw [dq_div hb]; exact a.1.symm
    have er : dq V i % b = (dq V (i + 1) % b * 1000000000 + dq V i % 1000000000) % b := a.2.symm
    have sm : xsame [35] w (pL w 35 i (jL (dq (V / b) i % 1000000000))) := sm_pL (by decide)
    obtain ⟨w', g1, g2, g3, g4⟩ := ih (pL w 35 i (jL (dq (V / b) i % 1000000000))) (by omega) hC.putL (fun j h1 h2 => by
      by_cases z : j = i
      · rw [z]; exact ((kl_35 hC).has (by decide) (by omega)).put
      · exact (H1 j (by omega) h2).put z) (fun j hj => (H2 j (by omega)).put (by omega))
    rw [eq, er] at g1
    rw [show (((i + 1 : Nat) : Int) - 1) = (i : Int) by omega]
    exact ⟨w', Z_159_13 hC ⟨s32, fun q => by omega, fun _ => ⟨by omega, _, H2 i (by omega), ⟨by omega, by omega⟩, ⟨by omega, by omega⟩, by omega, _, tdN (by omega), ⟨by omega, by omega⟩, fun w12 e12 _ => ⟨by omega, _, tmN (by omega), by rw [e12]; exact g1⟩⟩⟩, g2, by rw [eq] at sm; exact sm.trans (by rw [eq] at g3; exact g3), g4⟩
theorem C_decDiv {w : xW} (hC : CS w) {V b : Int} (hb : 0 < b) (b1 : b ≤ 1000000000) (hV : dq V 28 = 0) (H : bn w 35 28 V) : ∃ w', xCall 159 [.ref 34, .long (jL b)] w (none, w') ∧ CS w' ∧ xsame [35] w w' ∧ bn w' 35 28 (V / b) := by
  obtain ⟨w', g1, g2, g3, g4⟩ := L_159 (V := V) hb b1 28 w (Nat.le_refl _) hC (fun j h1 h2 => by omega) (fun j hj => H j hj)
  rw [hV, Int.zero_emod] at g1
  exact ⟨w', Z_159 hC ⟨⟨by omega, by omega⟩, fun _ => g1, fun q => by omega⟩, g2, g3, g4⟩
/-! polynomials as lists -/
def evL (l : List Int) (x : Int) : Int := match l with
  | [] => 0
  | c :: l => c + x * evL l x
def adL : List Int → List Int → List Int
  | [], m => m
  | l, [] => l
  | a :: l, b :: m => (a + b) :: adL l m
theorem evL_ad (x : Int) : ∀ l m : List Int, evL (adL l m) x = evL l x + evL m x
  | [], m => by show evL m x = 0 + evL m x; omega
  | a :: l, [] => by show evL (a :: l) x = evL (a :: l) x + 0; omega
  | a :: l, b :: m => by
    show a + b + x * evL (adL l m) x = a + x * evL l x + (b + x * evL m x)
    rw [evL_ad x l m, Int.mul_add]
    omega
def shL : List Int → List Int
  | [] => []
  | c :: l => adL (c :: shL l) (shL l)
theorem evL_sh (x : Int) : ∀ l : List Int, evL (shL l) x = evL l (x + 1)
  | [] => rfl
  | c :: l => by
    show evL (adL (c :: shL l) (shL l)) x = c + (x + 1) * evL l (x + 1)
    rw [evL_ad]
    show c + x * evL (shL l) x + evL (shL l) x = _
    rw [evL_sh x l, Int.add_mul, Int.one_mul]
    omega
def xmL (K : Int) : Nat → List Int
  | 0 => [K]
  | m + 1 => 0 :: xmL K m
theorem evL_xm (K x : Int) : ∀ m : Nat, evL (xmL K m) x = K * x ^ m
  | 0 => by show K + x * 0 = K * x ^ 0; rw [Int.pow_zero]; omega
  | m + 1 => by
    show 0 + x * evL (xmL K m) x = K * x ^ (m + 1)
    rw [evL_xm K x m, Int.pow_succ]
    have : x * (K * x ^ m) = K * (x ^ m * x) := by ac_rfl
    omega
abbrev K24 : Int := 223092870
def coD (m j : Nat) : Int := if j = 0 then 0 else (cb (m + 1) j : Nat) * (scV (rE (m + 1 - j)) K24 + (if ((m + 1 - j : Nat) : Int) = 1 then 1 else 0) * K24)
def clD (m : Nat) : List Int := (List.range (m + 2)).map (fun j => if j = 0 then 0 else ((pasr (m + 1)).getD j 0 : Nat) * (scV (rE (m + 1 - j)) K24 + (if ((m + 1 - j : Nat) : Int) = 1 then 1 else 0) * K24))
theorem clD_c : ∀ m : Nat, m < 25 → shL (clD m) = adL (clD m) (shL (xmL (K24 * ((m : Int) + 1)) m)) := by decide +kernel
theorem clD_b : ∀ m : Nat, m < 25 → ∀ x ∈ clD m, -8000000000000000000 ≤ x ∧ x ≤ 8000000000000000000 := by decide +kernel
def pwS (m : Nat) : Nat → Int
  | 0 => 0
  | n + 1 => pwS m n + ((n : Int) + 1) ^ m
theorem clD_ev {m : Nat} (hm : m < 25) : ∀ n : Nat, evL (clD m) (n : Int) = K24 * ((m : Int) + 1) * pwS m n
  | 0 => by
    have e : clD m = 0 :: ((List.range (m + 1)).map (fun j => if j + 1 = 0 then 0 else ((pasr (m + 1)).getD (j + 1) 0 : Nat) * (scV (rE (m + 1 - (j + 1))) K24 + (if ((m + 1 - (j + 1) : Nat) : Int) = 1 then 1 else 0) * K24))) := by
      unfold clD
      rw [show m + 2 = (m + 1) + 1 from rfl, List.range_succ_eq_map, List.map_cons, List.map_map]
      rfl
    rw [e]
    show 0 + ((0 : Nat) : Int) * _ = K24 * ((m : Int) + 1) * 0
    simp
  | n + 1 => by
    have ih := clD_ev hm n
    have s := evL_sh (n : Int) (clD m)
    rw [clD_c m hm, evL_ad, evL_sh, evL_xm, ih] at s
    show evL (clD m) ((n : Int) + 1) = K24 * ((m : Int) + 1) * (pwS m n + ((n : Int) + 1) ^ m)
    rw [← s, Int.mul_add (K24 * ((m : Int) + 1))]
theorem evP_L {co : Nat → Int} {x : Int} : ∀ (l : List Int) (j : Nat), (∀ i c, l[i]? = some c → co (j + i) = c) → evP co x l.length j = evL l x
  | [], j, _ => rfl
  | c :: l, j, h => by
    have e0 := h 0 c rfl
    rw [Nat.add_zero] at e0
    have ih := evP_L (co := co) (x := x) l (j + 1) (fun i d hd => by
      have := h (i + 1) d (by simpa using hd)
      rw [show j + 1 + i = j + (i + 1) by omega]
      exact this)
    show co j + x * evP co x l.length (j + 1) = c + x * evL l x
    rw [ih, e0]
theorem clD_len (m : Nat) : (clD m).length = m + 2 := by unfold clD; simp
theorem clD_get {m j : Nat} (hm : m < 25) (hj : j < m + 2) : (clD m)[j]? = some (coD m j) := by
  unfold clD
  rw [List.getElem?_map, List.getElem?_range hj]
  show some (if j = 0 then (0 : Int) else (((pasr (m + 1)).getD j 0 : Nat) : Int) * (scV (rE (m + 1 - j)) K24 + (if ((m + 1 - j : Nat) : Int) = 1 then 1 else 0) * K24)) = some (coD m j)
  rw [pasr_D (by omega)]
  rfl
theorem evD {m n : Nat} (hm : m < 25) : evP (coD m) (n : Int) (m + 2) 0 = K24 * ((m : Int) + 1) * pwS m n := by
  rw [← clD_ev hm n, ← evP_L (co := coD m) (x := (n : Int)) (clD m) 0 (fun i c hc => by
    have hi : i < m + 2 := by
      have := (List.getElem?_eq_some_iff.mp hc).1
      rw [clD_len] at this
      exact this
    rw [clD_get hm hi] at hc
    rw [Nat.zero_add]
    exact Option.some.inj hc), clD_len]
theorem coD_b {m j : Nat} (hm : m < 25) (hj : j < m + 2) : -8000000000000000000 ≤ coD m j ∧ coD m j ≤ 8000000000000000000 := clD_b m hm _ (List.mem_of_getElem? (clD_get hm hj))
theorem pw_mono {m : Nat} : ∀ n : Nat, 0 ≤ pwS m n ∧ pwS m n ≤ (n : Int) * (n : Int) ^ m
  | 0 => ⟨Int.le_refl 0, by show (0 : Int) ≤ ((0 : Nat) : Int) * _; simp⟩
  | n + 1 => by
    have ih := pw_mono (m := m) n
    have p := pw_le (b := (n : Int)) (B := (n : Int) + 1) (by omega) (by omega) m
    show 0 ≤ pwS m n + ((n : Int) + 1) ^ m ∧ pwS m n + ((n : Int) + 1) ^ m ≤ ((n : Int) + 1) * ((n : Int) + 1) ^ m
    have q : (n : Int) * (n : Int) ^ m ≤ (n : Int) * ((n : Int) + 1) ^ m := Int.mul_le_mul_of_nonneg_left p.2 (by omega)
    rw [Int.add_mul, Int.one_mul]
    exact ⟨by omega, by omega⟩
theorem pw_lt {m n : Nat} (hm : m ≤ 24) (hn : n ≤ 1000000000) : 0 ≤ pwS m n ∧ pwS m n ≤ 1000000000 ^ 25 := by
  have a := pw_mono (m := m) n
  have p := pw_le (b := (n : Int)) (B := 1000000000) (by omega) (by omega) (m + 1)
  have e : (n : Int) * (n : Int) ^ m = (n : Int) ^ (m + 1) := by rw [Int.pow_succ, Int.mul_comm]
  have k : ∀ i : Nat, i < 26 → (1000000000 : Int) ^ i ≤ 1000000000 ^ 25 := by decide +kernel
  have := k (m + 1) (by omega)
  exact ⟨a.1, by omega⟩
section D7
variable {c : Nat} {E : eT} {t : Int} {ws : Nat → Int} {me : memT} {w : xW}
theorem L_6d : ∀ (k i : Nat) (w : xW), i + k = 28 → CS w → (∀ j, j < i → rL w 35 j 0) →
    ∃ w', xGo 6 6 [some (.ref 35), some (.long (jL 0)), none, some (.int (jI (i : Int))), some (.int (jI 28))] [] w (none, w') ∧ CS w' ∧ xsame [35] w w' ∧ ∀ j, j < 28 → rL w' 35 j 0 := by
  intro k
  induction k with
  | zero =>
    intro i w hi hC H
    exact ⟨w, S_6_6 ⟨fun _ => rfl, fun q => absurd ((jI_le s32 s32).mpr (by omega)) q⟩, hC, xsame.rf, fun j hj => H j (by omega)⟩
  | succ k ih =>
    intro i w hi hC H
    obtain ⟨f, hf⟩ := kl_35 hC
    have sm : xsame [35] w (pL w 35 i (jL 0)) := sm_pL (by decide)
    obtain ⟨w', g1, g2, g3, g4⟩ := ih (i + 1) (pL w 35 i (jL 0)) (by omega) hC.putL (fun j hj => by
      by_cases z : j = i
      · rw [z]; exact ((kl_35 hC).has (by decide) (by omega)).put
      · exact (H j (by omega)).put z)
    refine ⟨w', S_6_6 ⟨fun q => absurd q (fun z => by have := (jI_le (a := 28) (b := (i : Int)) s32 s32).mp z; omega), fun _ => ⟨_, _, hf, ixin (by omega) (by decide), fun w5 e5 v6 e6 => ?_⟩⟩, g2, sm.trans g3, g4⟩
    rw [ixn (by omega)] at e5
    rw [e5, e6, show (1 : Int32) = jI 1 from rfl, jI_add]
    have e : List.set w 35 (aL 28 (vp_updL f i (jL 0))) = pL w 35 i (jL 0) := (pL_of hf).symm
    show xGo 6 6 _ [] (List.set w 35 (aL 28 (vp_updL f i (jL 0)))) (none, w')
    rw [e]
    exact g1
theorem dq_z : ∀ i : Nat, dq 0 i = 0
  | 0 => rfl
  | i + 1 => by
    show dq 0 i / 1000000000 = 0
    rw [dq_z i]; rfl
theorem C_clear {w : xW} (hC : CS w) : ∃ w', xCall 157 [.ref 34] w (none, w') ∧ CS w' ∧ xsame [35] w w' ∧ bn w' 35 28 0 := by
  obtain ⟨w', g1, g2, g3, g4⟩ := L_6d 28 0 w rfl hC (fun j hj => by omega)
  obtain ⟨f, hf⟩ := kl_35 hC
  have x6 : xCall 6 [.ref 35, .long (jL 0)] w (none, w') := E_6 (S_6_0 ⟨_, _, hf, fun v4 e4 => by rw [e4]; exact g1⟩)
  exact ⟨w', Z_157 hC ⟨_, x6, g2, rfl⟩, g2, g3, fun k hk => by rw [dq_z]; exact g4 k hk⟩
end D7
