/-! often -/
def ofV (p : Int) : Nat → Int → Int
  | 0, _ => 0
  | f + 1, V => if V % p = 0 then ofV p f (V / p) + 1 else 0
theorem ofV_b (p : Int) : ∀ (f : Nat) (V : Int), 0 ≤ ofV p f V ∧ ofV p f V ≤ f
  | 0, _ => by simp [ofV]
  | f + 1, V => by
    show 0 ≤ (if V % p = 0 then ofV p f (V / p) + 1 else 0) ∧ (if V % p = 0 then ofV p f (V / p) + 1 else 0) ≤ _
    have := ofV_b p f (V / p)
    split <;> omega
theorem of_less {p V K : Int} (hp : 3 ≤ p) (h : V % p = 0) (h1 : -(3 * K) < V) (h2 : V < 3 * K) : -K < V / p ∧ V / p < K := by
  have e : p * (V / p) = V := Int.mul_ediv_cancel' (Int.dvd_of_emod_eq_zero h)
  generalize V / p = q at e
  subst e
  refine ⟨?_, ?_⟩
  · apply Int.lt_of_not_ge
    intro z
    have a : p * (-q) ≥ 3 * (-q) := by
      by_cases hq : 0 ≤ -q
      · exact Int.mul_le_mul_of_nonneg_right hp hq
      · exfalso
        have : 0 < q := by omega
        have : 0 < p * q := Int.mul_pos (by omega) this
        omega
    rw [Int.mul_neg] at a
    omega
  · apply Int.lt_of_not_ge
    intro z
    have a : p * q ≥ 3 * q := by
      by_cases hq : 0 ≤ q
      · exact Int.mul_le_mul_of_nonneg_right hp hq
      · exfalso
        have : 0 < -q := by omega
        have : 0 < p * (-q) := Int.mul_pos (by omega) this
        rw [Int.mul_neg] at this
        omega
    omega
theorem of_ne {p V : Int} (h : V % p = 0) (h0 : V ≠ 0) : V / p ≠ 0 := by
  intro z
  have e : p * (V / p) = V := Int.mul_ediv_cancel' (Int.dvd_of_emod_eq_zero h)
  rw [z, Int.mul_zero] at e
  exact h0 e.symm
theorem of_split {p b x r : Int} (hp : 0 < p) : (p * (x * b) + r) % p = r % p ∧ (p * (x * b) + r) / p = x * b + r / p := ⟨Int.mul_add_emod_self_left _ _ _, Int.mul_add_ediv_left _ _ (by omega)⟩
theorem quot_b {a p q r K : Int} (hp : 3 ≤ p) (e : a = p * q + r) (r1 : -p < r) (r2 : r < p) (h1 : -K ≤ a) (h2 : a ≤ K) (hK : 0 ≤ K) : -K ≤ q ∧ q ≤ K := by
  refine ⟨?_, ?_⟩
  · apply Int.le_of_not_gt
    intro z
    have m : p * (K + 1) ≤ p * (-q) := Int.mul_le_mul_of_nonneg_left (by omega) (by omega)
    have m2 : 3 * K ≤ p * K := Int.mul_le_mul_of_nonneg_right hp hK
    rw [Int.mul_neg, Int.mul_add, Int.mul_one] at m
    omega
  · apply Int.le_of_not_gt
    intro z
    have m : p * (K + 1) ≤ p * q := Int.mul_le_mul_of_nonneg_left (by omega) (by omega)
    have m2 : 3 * K ≤ p * K := Int.mul_le_mul_of_nonneg_right hp hK
    rw [Int.mul_add, Int.mul_one] at m
    omega
section OF
variable {c : Nat} {E : eT} {t : Int} {ws : Nat → Int} {me : memT} {w : xW}
theorem L_oftenAbove (hC : CS w) {p : Int} (h3 : 3 ≤ p) (hp : p ≤ 199) {b : Int} (b0 : 0 < b) (b1 : b ≤ 1919190) (hb : fJ w 36 5 2 b) : ∀ (f : Nat) (i hi lo V : Int), i + f = 64 → 0 ≤ i → V = hi * b + lo → 0 ≤ lo → lo ≤ b → V ≠ 0 → -(3 ^ f : Int) < V → V < (3 ^ f : Int) → -600000000000000 ≤ hi → hi ≤ 600000000000000 →
    xGo 101 39 [some (.ref 36), some (.int (jI p)), some (.long (jL hi)), none, some (.long (jL lo)), none, some (.int (jI i)), none, none] [] w (some (.int (jI (i + ofV p f V))), w) := by
  intro f
  induction f with
  | zero =>
    intro i hi lo V h1 h2 h4 h5 h6 h7 h8 h9
    exfalso
    rw [Int.pow_zero] at h8 h9
    omega
  | succ f ih =>
    intro i hi lo V h1 h2 h4 h5 h6 h7 h8 h9 h10 h11
    have m0 := Int.emod_nonneg hi (show p ≠ 0 by omega)
    have m1 := Int.emod_lt_of_pos hi (show 0 < p by omega)
    have ed := Int.mul_ediv_add_emod hi p
    have q1 : hi % p * b ≤ (p - 1) * b := Int.mul_le_mul_of_nonneg_right (by omega) (by omega)
    have q0 : 0 ≤ hi % p * b := Int.mul_nonneg m0 (by omega)
    have q2 : (p - 1) * b ≤ 198 * 1919190 := Int.mul_le_mul (by omega) b1 (by omega) (by omega)
    have q3 : (p - 1) * b = p * b - b := by rw [Int.sub_mul, Int.one_mul]
    have eV : V = p * (hi / p * b) + (hi % p * b + lo) := by
      rw [h4]
      have : hi * b = p * (hi / p * b) + hi % p * b := by
        rw [← Int.mul_assoc, ← Int.add_mul, ed]
      omega
    obtain ⟨s1, s2⟩ := of_split (p := p) (b := b) (x := hi / p) (r := hi % p * b + lo) (by omega)
    rw [← eV] at s1 s2
    have qb := quot_b (K := 600000000000000) h3 (show hi = p * (hi / p) + hi % p by omega) (by omega) (by omega) h10 h11 (by omega)
    have l0 : 0 ≤ (hi % p * b + lo) / p := Int.ediv_nonneg (by omega) (by omega)
    have l1 : (hi % p * b + lo) / p ≤ b := by
      apply Int.le_of_lt_add_one
      rw [Int.ediv_lt_iff_lt_mul (by omega), Int.add_mul, Int.one_mul, Int.mul_comm b p]
      omega
    have c0 := Int.emod_nonneg (hi % p * b + lo) (show p ≠ 0 by omega)
    have c1 := Int.emod_lt_of_pos (hi % p * b + lo) (show 0 < p by omega)
    have e : ofV p (f + 1) V = if V % p = 0 then ofV p f (V / p) + 1 else 0 := rfl
    refine Z_101_39 hC ⟨s32, fun z => by omega, fun _ => ⟨s32, _, _, C_floorMod s64 s64 (by omega) w, hC, _, hb, s64, by omega, _, tmN (by omega), s64, fun z => ?_, fun z => ?_⟩⟩
    · rw [e, if_pos (by omega)]
      have hk : (3 : Int) ^ (f + 1) = 3 * 3 ^ f := by rw [Int.pow_succ, Int.mul_comm]
      rw [hk] at h8 h9
      have ol := of_less h3 (show V % p = 0 by omega) h8 h9
      refine ⟨_, _, C_floorDiv s64 s64 (by omega) w, hC, by omega, _, tdN (by omega), ?_⟩
      have ih2 := ih (i + 1) (hi / p) ((hi % p * b + lo) / p) (V / p) (by omega) (by omega) s2 l0 l1 (of_ne (by omega) h7) ol.1 ol.2 qb.1 qb.2
      rw [show i + (ofV p f (V / p) + 1) = i + 1 + ofV p f (V / p) by omega]
      exact ih2
    · rw [e, if_neg (by omega), Int.add_zero]
theorem L_oftenBelow (hC : CS w) {p : Int} (h3 : 3 ≤ p) (hp : p ≤ 199) : ∀ (f : Nat) (i V : Int), i + f = 64 → 0 ≤ i → 0 < V → V < (3 ^ f : Int) → V ≤ 1919190 →
    xGo 102 15 [some (.ref 36), some (.int (jI p)), some (.long (jL V)), none, some (.int (jI i))] [] w (some (.int (jI (i + ofV p f V))), w) := by
  intro f
  induction f with
  | zero =>
    intro i V h1 h2 h4 h5 h6
    exfalso
    rw [Int.pow_zero] at h5
    omega
  | succ f ih =>
    intro i V h1 h2 h4 h5 h6
    have c0 := Int.emod_nonneg V (show p ≠ 0 by omega)
    have c1 := Int.emod_lt_of_pos V (show 0 < p by omega)
    have e : ofV p (f + 1) V = if V % p = 0 then ofV p f (V / p) + 1 else 0 := rfl
    have hk : (3 : Int) ^ (f + 1) = 3 * 3 ^ f := by rw [Int.pow_succ, Int.mul_comm]
    rw [hk] at h5
    have dl : V / p ≤ V := Int.ediv_le_self _ (by omega)
    refine Z_102_15 hC ⟨s32, fun z => by omega, fun _ => ⟨s32, s64, by omega, _, tmN (by omega), s64, fun z => ?_, fun z => ?_⟩⟩
    · have ol := of_less h3 z (K := 3 ^ f) (by omega) h5
      have nz := of_ne z (by omega)
      have nn : 0 ≤ V / p := Int.ediv_nonneg (by omega) (by omega)
      rw [e, if_pos z, show i + (ofV p f (V / p) + 1) = i + 1 + ofV p f (V / p) by omega]
      exact ⟨by omega, _, tdN (by omega), ih (i + 1) (V / p) (by omega) (by omega) (by omega) ol.2 (by omega)⟩
    · rw [e, if_neg z, Int.add_zero]
theorem L_moftenIn (hC : CS w) {p z0 : Int} (h3 : 3 ≤ p) (hp : p ≤ 199) : ∀ (f : Nat) (i V : Int), 0 < V → V < (3 ^ f : Int) → V ≤ 1919190 →
    xGo 235 5 [some (.long (jL z0)), none, some (.int (jI p)), some (.int (jI i)), some (.long (jL V)), none] [] w (some (.int (jI (i + ofV p f V))), w) := by
  intro f
  induction f with
  | zero =>
    intro i V h4 h5 h6
    exfalso
    rw [Int.pow_zero] at h5
    omega
  | succ f ih =>
    intro i V h4 h5 h6
    have c0 := Int.emod_nonneg V (show p ≠ 0 by omega)
    have c1 := Int.emod_lt_of_pos V (show 0 < p by omega)
    have e : ofV p (f + 1) V = if V % p = 0 then ofV p f (V / p) + 1 else 0 := rfl
    have hk : (3 : Int) ^ (f + 1) = 3 * 3 ^ f := by rw [Int.pow_succ, Int.mul_comm]
    rw [hk] at h5
    have dl : V / p ≤ V := Int.ediv_le_self _ (by omega)
    refine Z_235_5 hC ⟨s32, s64, by omega, _, tmN (by omega), s64, fun z => ?_, fun z => ?_⟩
    · rw [e, if_neg z, Int.add_zero]
    · have ol := of_less h3 z (K := 3 ^ f) (by omega) h5
      have nz := of_ne z (by omega)
      have nn : 0 ≤ V / p := Int.ediv_nonneg (by omega) (by omega)
      rw [e, if_pos z, show i + (ofV p f (V / p) + 1) = i + 1 + ofV p f (V / p) by omega]
      exact ⟨by omega, _, tdN (by omega), ih (i + 1) (V / p) (by omega) ol.2 (by omega)⟩
theorem L_moftenAbove (hC : CS w) {n p : Int} (h3 : 3 ≤ p) (hp : p ≤ 199) {b : Int} (b0 : 0 < b) (b1 : b ≤ 1919190) : ∀ (f : Nat) (i hi lo V : Int), V = hi * b + lo → -b ≤ lo → lo ≤ b → V ≠ 0 → -(3 ^ f : Int) < V → V < (3 ^ f : Int) → -600000000000000 ≤ hi → hi ≤ 600000000000000 →
    xGo 236 52 [some (.ref 39), some (.int (jI n)), some (.int (jI p)), some (.long (jL hi)), none, some (.long (jL b)), none, some (.long (jL lo)), none, some (.int (jI i)), none, none, none, none, none, none] [] w (some (.int (jI (i + ofV p f V))), w) := by
  intro f
  induction f with
  | zero =>
    intro i hi lo V h4 h5 h6 h7 h8 h9
    exfalso
    rw [Int.pow_zero] at h8 h9
    omega
  | succ f ih =>
    intro i hi lo V h4 h5 h6 h7 h8 h9 h10 h11
    have tb := tm_b (x := hi) (m := p) (by omega)
    have ed := Int.mul_tdiv_add_tmod hi p
    have el : hi - Int.tdiv hi p * p = Int.tmod hi p := by
      rw [Int.mul_comm]
      omega
    have q1 : Int.tmod hi p * b ≤ (p - 1) * b := Int.mul_le_mul_of_nonneg_right (by omega) (by omega)
    have q0 : -(p - 1) * b ≤ Int.tmod hi p * b := Int.mul_le_mul_of_nonneg_right (by omega) (by omega)
    have q2 : (p - 1) * b ≤ 198 * 1919190 := Int.mul_le_mul (by omega) b1 (by omega) (by omega)
    have q3 : (p - 1) * b = p * b - b := by rw [Int.sub_mul, Int.one_mul]
    have q4 : -(p - 1) * b = -((p - 1) * b) := Int.neg_mul _ _
    have eV : V = p * (Int.tdiv hi p * b) + (Int.tmod hi p * b + lo) := by
      rw [h4]
      have : hi * b = p * (Int.tdiv hi p * b) + Int.tmod hi p * b := by
        rw [← Int.mul_assoc, ← Int.add_mul, ed]
      omega
    obtain ⟨s1, s2⟩ := of_split (p := p) (b := b) (x := Int.tdiv hi p) (r := Int.tmod hi p * b + lo) (by omega)
    rw [← eV] at s1 s2
    have qb := quot_b (K := 600000000000000) h3 (show hi = p * (Int.tdiv hi p) + Int.tmod hi p by omega) tb.1 tb.2 h10 h11 (by omega)
    have e : ofV p (f + 1) V = if V % p = 0 then ofV p f (V / p) + 1 else 0 := rfl
    refine Z_236_52 hC ⟨s32, s64, by omega, _, rfl, ?_⟩
    rw [el]
    refine ⟨s64, by omega, _, rfl, in_tmL (by omega) (by omega), fun z => ?_, fun z => ?_⟩
    · have z' := tm0.mp z
      have hd : p ∣ Int.tmod hi p * b + lo := Int.dvd_of_emod_eq_zero z'
      have e3 : Int.tdiv (Int.tmod hi p * b + lo) p = (Int.tmod hi p * b + lo) / p := Int.tdiv_eq_ediv_of_dvd hd
      have e4 : p * ((Int.tmod hi p * b + lo) / p) = Int.tmod hi p * b + lo := Int.mul_ediv_cancel' hd
      have hk : (3 : Int) ^ (f + 1) = 3 * 3 ^ f := by rw [Int.pow_succ, Int.mul_comm]
      rw [hk] at h8 h9
      have ol := of_less h3 (show V % p = 0 by omega) h8 h9
      have lb : -b ≤ (Int.tmod hi p * b + lo) / p ∧ (Int.tmod hi p * b + lo) / p ≤ b := by
        generalize (Int.tmod hi p * b + lo) / p = q at e4
        refine ⟨?_, ?_⟩
        · apply Int.le_of_not_gt
          intro y
          have : p * (b + 1) ≤ p * (-q) := Int.mul_le_mul_of_nonneg_left (by omega) (by omega)
          rw [Int.mul_neg, Int.mul_add, Int.mul_one] at this
          omega
        · apply Int.le_of_not_gt
          intro y
          have : p * (b + 1) ≤ p * q := Int.mul_le_mul_of_nonneg_left (by omega) (by omega)
          rw [Int.mul_add, Int.mul_one] at this
          omega
      rw [e, if_pos (by omega), show i + (ofV p f (V / p) + 1) = i + 1 + ofV p f (V / p) by omega]
      exact ⟨by omega, _, e3, ih (i + 1) _ _ (V / p) s2 lb.1 lb.2 (of_ne (by omega) h7) ol.1 ol.2 qb.1 qb.2⟩
    · have z' : ¬ (Int.tmod hi p * b + lo) % p = 0 := fun q => z (tm0.mpr q)
      rw [e, if_neg (by omega), Int.add_zero]
def enV (e : Int × Int × Int) : Int := e.1 * e.2.2 + e.2.1
theorem enV_0 {e : Int × Int × Int} (h0 : 0 ≤ e.2.1) (h1 : e.2.1 < e.2.2) : enV e = 0 ↔ e.1 = 0 ∧ e.2.1 = 0 := by
  unfold enV
  refine ⟨fun h => ?_, fun h => by rw [h.1, h.2]; omega⟩
  by_cases hz : e.1 = 0
  · rw [hz, Int.zero_mul] at h
    exact ⟨hz, by omega⟩
  · exfalso
    by_cases hp : 0 < e.1
    · have : 1 * e.2.2 ≤ e.1 * e.2.2 := Int.mul_le_mul_of_nonneg_right (by omega) (by omega)
      omega
    · have : e.1 * e.2.2 ≤ -1 * e.2.2 := Int.mul_le_mul_of_nonneg_right (by omega) (by omega)
      omega
theorem enV_b {e : Int × Int × Int} (h0 : 0 ≤ e.2.1) (h1 : e.2.1 < e.2.2) (h2 : e.2.2 ≤ 1919190) (h3 : -500000000010000 ≤ e.1) (h4 : e.1 ≤ 500000000010000) : -(3 ^ 64 : Int) < enV e ∧ enV e < (3 ^ 64 : Int) := by
  unfold enV
  have a : e.1 * e.2.2 ≤ 500000000010000 * e.2.2 := Int.mul_le_mul_of_nonneg_right h4 (by omega)
  have b : -500000000010000 * e.2.2 ≤ e.1 * e.2.2 := Int.mul_le_mul_of_nonneg_right h3 (by omega)
  have k : (3 ^ 64 : Int) = 3433683820292512484657849089281 := by decide
  rw [k]
  omega
def ofS (E : eT) (t n p : Int) : Int := if isPr p ∧ 0 ≤ n ∧ n ≤ t then (if enV (E n.toNat) = 0 then 100 else ofV p 64 (enV (E n.toNat)) - ofV p 64 (E n.toNat).2.2) else -100
theorem c_often (ok : okS c E t ws me) {n p : Int} (hn : in32 n) (hp : in32 p) : cAns E t ws me E t ws me 98 [.int (jI n), .int (jI p)] (.int (jI (ofS E t n p))) := by
  intro w h
  by_cases c1 : isPr p
  · by_cases c2 : 0 ≤ n ∧ n ≤ t
    · obtain ⟨q, hq, e0, h1, h2⟩ := isPr_nat c1
      have b := ok_e ok c2.1 c2.2
      have a := ok.2.2.2.1 n.toNat (by omega)
      have a0 := a.1
      have a1 := a.2.1
      have z0 := enV_0 a0 a1
      have vb := enV_b a0 a1 b.2.2.2.2.1 b.2.2.2.2.2.1 b.2.2.2.2.2.2
      have sg := C_signN h ok c2.1 c2.2
      by_cases c3 : enV (E n.toNat) = 0
      · have es : sgE (E n.toNat) = 0 := by
          unfold sgE
          rw [if_neg (by have := (z0.mp c3).1; omega), if_pos (z0.mp c3)]
        rw [es] at sg
        refine ⟨w, Z_98 h.1 ⟨_, _, _, C_isPrime hp h.1.noP, h.1, fun q => absurd c1 q, fun _ => ⟨_, _, _, C_isLaid h ok hn, h.1, fun _ => ⟨_, _, sg, h.1, s32, fun q => absurd rfl q, fun _ => ?_⟩, fun q => absurd c2 q⟩⟩, h, xsame.rf⟩
        unfold ofS
        rw [if_pos ⟨c1, c2⟩, if_pos c3]
      · have es : sgE (E n.toNat) ≠ 0 := by
          unfold sgE
          split
          · omega
          · rw [if_neg (fun q => c3 (z0.mpr q))]
            omega
        have sb := sgE_b (E n.toNat)
        have f := fw h.1 (E n.toNat).1 (E n.toNat).2.1 (E n.toNat).2.2
        have f0 := fw0 f.2.1
        have A := L_oftenAbove f.1 (p := p) (by omega) (by omega) b.2.2.2.1 b.2.2.2.2.1 f0.2.2 64 0 (E n.toNat).1 (E n.toNat).2.1 (enV (E n.toNat)) (by omega) (by omega) rfl a0 (by omega) c3 vb.1 vb.2 (by omega) (by omega)
        have k3 : (1919190 : Int) < 3 ^ 64 := by decide
        have B := L_oftenBelow f.1 (p := p) (by omega) (by omega) 64 0 (E n.toNat).2.2 (by omega) (by omega) b.2.2.2.1 (by omega) b.2.2.2.2.1
        rw [Int.zero_add] at A B
        have A2 : xCall 101 [.ref 36, .int (jI p)] (w.set 36 (frac (E n.toNat).1 (E n.toNat).2.1 (E n.toNat).2.2)) (some (.int (jI (ofV p 64 (enV (E n.toNat))))), (w.set 36 (frac (E n.toNat).1 (E n.toNat).2.1 (E n.toNat).2.2))) := Z_101 f.1 ⟨hp, fun z => by omega, fun _ => ⟨_, f0.1, b.1, fun _ => ⟨_, f0.2.1, A⟩, fun y => ⟨_, f0.2.1, b.2.1, fun _ => A, fun y2 => absurd (z0.mpr ⟨y, y2⟩) c3⟩⟩⟩
        have B2 : xCall 102 [.ref 36, .int (jI p)] (w.set 36 (frac (E n.toNat).1 (E n.toNat).2.1 (E n.toNat).2.2)) (some (.int (jI (ofV p 64 (E n.toNat).2.2))), (w.set 36 (frac (E n.toNat).1 (E n.toNat).2.1 (E n.toNat).2.2))) := Z_102 f.1 ⟨hp, fun _ => ⟨_, f0.2.2, B⟩, fun z => by omega⟩
        refine ⟨_, Z_98 h.1 ⟨_, _, _, C_isPrime hp h.1.noP, h.1, fun q => absurd c1 q, fun _ => ⟨_, _, _, C_isLaid h ok hn, h.1, fun _ => ⟨_, _, sg, h.1, s32, fun _ => ⟨_, C_fetchN h ok c2.1 c2.2, f.1, _, _, A2, f.1, _, _, B2, f.1, ?_⟩, fun q => absurd q es⟩, fun q => absurd c2 q⟩⟩, h.f36 _ _ _, f.2.2.mono (by decide)⟩
        unfold ofS
        rw [if_pos ⟨c1, c2⟩, if_neg c3]
    · refine ⟨w, Z_98 h.1 ⟨_, _, _, C_isPrime hp h.1.noP, h.1, fun q => absurd c1 q, fun _ => ⟨_, _, _, C_isLaid h ok hn, h.1, fun q => absurd q c2, fun _ => ?_⟩⟩, h, xsame.rf⟩
      unfold ofS
      rw [if_neg (fun z => c2 z.2)]
  · refine ⟨w, Z_98 h.1 ⟨_, _, _, C_isPrime hp h.1.noP, h.1, fun _ => ?_, fun q => absurd q c1⟩, h, xsame.rf⟩
    unfold ofS
    rw [if_neg (fun z => c1 z.1)]
theorem m_often (ok : okS c E t ws me) {n p : Int} (hn : in32 n) (hp : in32 p) : mAns E t ws me E t ws me 234 [.int (jI n), .int (jI p)] (.int (jI (ofS E t n p))) := by
  intro w h0
  have h := h0.p0 (v := jI 0)
  have ht := ok.2.2.1
  have ht1 := ok.2.1
  refine ⟨_, Z_234 h0.1 (fun w2 e _ => ?_), h, sm_pF (by decide)⟩
  subst e
  revert h
  generalize pF w 39 0 (.int (jI 0)) = w
  intro h
  refine ⟨_, _, _, C_misEntry hn w, h.1, fun d => by unfold ofS; rw [if_neg (by omega)], fun d => ⟨_, _, _, C_misPrime h hp, h.1, fun e => by unfold ofS; rw [if_neg (fun z => e z.1)], fun e => ⟨_, h.top, hn, s32, fun g => ?_, fun g => by unfold ofS; rw [if_neg (by omega)]⟩⟩⟩
  obtain ⟨q, hq, e0, h1, h2⟩ := isPr_nat e
  have b := ok_e ok d.1 g
  have a := ok.2.2.2.1 n.toNat (by omega)
  have a0 := a.1
  have a1 := a.2.1
  have z0 := enV_0 a0 a1
  have vb := enV_b a0 a1 b.2.2.2.2.1 b.2.2.2.2.2.1 b.2.2.2.2.2.2
  have k := M_nw h ht d.1 g rfl
  have k3 : (1919190 : Int) < 3 ^ 64 := by decide
  have B := L_moftenIn h.1 (p := p) (z0 := (E n.toNat).2.2) (by omega) (by omega) 64 0 (E n.toNat).2.2 b.2.2.2.1 (by omega) b.2.2.2.2.1
  rw [Int.zero_add] at B
  have ob := ofV_b p 64 (enV (E n.toNat))
  refine ⟨by omega, _, k.2.2, _, _, Z_235 h.1 B, h.1, if enV (E n.toNat) = 0 then 100 else ofV p 64 (enV (E n.toNat)), w, ?_, h.1, ?_, fun y => ?_, fun y => ?_⟩
  · by_cases c3 : enV (E n.toNat) = 0
    · rw [if_pos c3]
      exact Z_236 h.1 ⟨by omega, _, k.1, by omega, _, k.2.2, by omega, _, k.2.1, b.1, fun q => absurd (z0.mp c3).1 q, fun _ => ⟨b.2.1, fun q => absurd (z0.mp c3).2 q, fun _ => rfl⟩⟩
    · rw [if_neg c3]
      have A := L_moftenAbove h.1 (n := n) (p := p) (by omega) (by omega) b.2.2.2.1 b.2.2.2.2.1 64 0 (E n.toNat).1 (E n.toNat).2.1 (enV (E n.toNat)) rfl (by omega) (by omega) c3 vb.1 vb.2 (by omega) (by omega)
      rw [Int.zero_add] at A
      exact Z_236 h.1 ⟨by omega, _, k.1, by omega, _, k.2.2, by omega, _, k.2.1, b.1, fun _ => A, fun y => ⟨b.2.1, fun _ => A, fun y2 => absurd (z0.mpr ⟨y, y2⟩) c3⟩⟩
  · split
    · exact s32
    · exact s32
  · unfold ofS
    by_cases c3 : enV (E n.toNat) = 0
    · rw [if_pos c3] at y
      omega
    · rw [if_pos ⟨e, d.1, g⟩, if_neg c3, if_neg c3]
  · unfold ofS
    by_cases c3 : enV (E n.toNat) = 0
    · rw [if_pos ⟨e, d.1, g⟩, if_pos c3]
    · rw [if_neg c3] at y
      omega
end OF
