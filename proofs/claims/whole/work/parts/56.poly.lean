/-! the calls value, quadratic, number -/
def evP (co : Nat → Int) (a : Int) : Nat → Nat → Int
  | 0, _ => 0
  | m + 1, j => co j + a * evP co a m (j + 1)
theorem evP_b {co u : Nat → Int} {a A M : Int} (hM : 0 ≤ M) (h : ∀ k, -(M * u k) ≤ co k ∧ co k ≤ M * u k) (hu : ∀ k, 0 ≤ u k) (a1 : -A ≤ a) (a2 : a ≤ A) : ∀ m j : Nat, -(M * evP u A m j) ≤ evP co a m j ∧ evP co a m j ≤ M * evP u A m j ∧ 0 ≤ evP u A m j
  | 0, j => by
    show -(M * 0) ≤ (0 : Int) ∧ (0 : Int) ≤ M * 0 ∧ (0 : Int) ≤ 0
    rw [Int.mul_zero]
    exact ⟨by decide, by decide, by decide⟩
  | m + 1, j => by
    obtain ⟨i1, i2, i3⟩ := evP_b hM h hu a1 a2 m (j + 1)
    have k := mul_ab a1 a2 i1 i2
    have hj := h j
    have uj := hu j
    have A0 : 0 ≤ A := by omega
    show -(M * (u j + A * evP u A m (j + 1))) ≤ co j + a * evP co a m (j + 1) ∧ co j + a * evP co a m (j + 1) ≤ M * (u j + A * evP u A m (j + 1)) ∧ 0 ≤ u j + A * evP u A m (j + 1)
    have e : M * (A * evP u A m (j + 1)) = A * (M * evP u A m (j + 1)) := by ac_rfl
    have n0 : 0 ≤ A * evP u A m (j + 1) := Int.mul_nonneg A0 i3
    rw [Int.mul_add, e]
    exact ⟨by omega, by omega, by omega⟩
theorem pw_le {b B : Int} (b0 : 0 ≤ b) (bB : b ≤ B) : ∀ j : Nat, 0 ≤ b ^ j ∧ b ^ j ≤ B ^ j
  | 0 => by rw [Int.pow_zero, Int.pow_zero]; exact ⟨by decide, by decide⟩
  | j + 1 => by
    have a := pw_le b0 bB j
    rw [Int.pow_succ, Int.pow_succ]
    exact ⟨Int.mul_nonneg a.1 b0, Int.mul_le_mul a.2 bB b0 (Int.le_trans a.1 a.2)⟩
def scV (e : Int × Int × Int) (S : Int) : Int := e.1 * S + e.2.1 * (S / e.2.2)
def hmC (n : Nat) (b : Int) (sc : Nat → Int) : Nat → Int := fun k => (cb n k : Nat) * sc (n - k) * b ^ (n - k)
theorem hmC_b {n : Nat} {b B M : Int} {sc : Nat → Int} (hM : 0 ≤ M) (b0 : 0 ≤ b) (bB : b ≤ B) (h : ∀ j, j ≤ n → -M ≤ sc j ∧ sc j ≤ M) (k : Nat) : -(M * ((cb n k : Nat) * B ^ (n - k))) ≤ hmC n b sc k ∧ hmC n b sc k ≤ M * ((cb n k : Nat) * B ^ (n - k)) := by
  have s := h (n - k) (by omega)
  have p := pw_le b0 bB (n - k)
  have m1 := mul_ab (a := ((cb n k : Nat) : Int)) (A := ((cb n k : Nat) : Int)) (b := sc (n - k)) (B := M) (by omega) (by omega) s.1 s.2
  have m2 := mul_ab (a := ((cb n k : Nat) : Int) * sc (n - k)) (A := ((cb n k : Nat) : Int) * M) (b := b ^ (n - k)) (B := B ^ (n - k)) (by omega) (by omega) (by omega) p.2
  have e : ((cb n k : Nat) : Int) * M * B ^ (n - k) = M * ((cb n k : Nat) * B ^ (n - k)) := by ac_rfl
  rw [e] at m2
  exact m2
theorem v10_c : ∀ n : Nat, n < 11 → evP (fun k => (cb n k : Nat) * (6 : Int) ^ (n - k)) 9 (n + 1) 0 ≤ 576650390625 := by decide +kernel
theorem q4_c : ∀ n : Nat, n < 5 → evP (fun k => (cb n k : Nat) * (199 : Int) ^ (n - k)) 199 (n + 1) 0 ≤ 25091827216 := by decide +kernel
theorem C_raised {w : xW} (hC : CS w) {a n : Int} (n0 : 0 ≤ n) (hn : n ≤ 100) : xCall 268 [.long (jL a), .int (jI n)] w (some (.long (jL (a ^ n.toNat))), w) := by
  have L : ∀ (k i : Nat), (i : Int) + k = n → xGo 268 5 [some (.long (jL a)), none, some (.int (jI n)), some (.long (jL (a ^ i))), none, some (.int (jI (i : Int)))] [] w (some (.long (jL (a ^ n.toNat))), w) := by
    intro k
    induction k with
    | zero =>
      intro i hi
      rw [show n.toNat = i by omega]
      exact Z_268_5 hC ⟨s32, s32, fun _ => rfl, fun q => by omega⟩
    | succ k ih =>
      intro i hi
      have g := ih (i + 1) (by omega)
      rw [Int.pow_succ] at g
      exact Z_268_5 hC ⟨s32, s32, fun q => by omega, fun _ => g⟩
  have g := L n.toNat 0 (by omega)
  rw [Int.pow_zero] at g
  exact Z_268 hC g
section P6
variable {c : Nat} {E : eT} {t : Int} {ws : Nat → Int} {me : memT} {w : xW}
theorem C_scaledN (h : cst E t ws me w) (ok : okS c E t ws me) {n S : Int} (n0 : 0 ≤ n) (hn : n ≤ t) (S0 : 0 ≤ S) (S64 : in64 S) : xCall 146 [.ref 12, .int (jI n), .long (jL S)] w (some (.long (jL (scV (E n.toNat) S))), w) := by
  have ht := ok.2.2.1
  have eb := ok_e ok n0 hn
  exact Z_146 h.1 (Or.inr (Or.inl rfl)) ⟨_, _, N_below h ht n0 hn, h.1, eb.2.2.1, fun q => by omega, fun _ => ⟨_, _, N_whole h ht n0 hn, h.1, _, _, N_above h ht n0 hn, h.1, S64, by omega, _, tdN S0, rfl⟩⟩
theorem C_scaledR (h : cst E t ws me w) {n S : Int} (n0 : 0 ≤ n) (hn : n ≤ 38) (S0 : 0 ≤ S) (S64 : in64 S) : xCall 146 [.ref 7, .int (jI n), .long (jL S)] w (some (.long (jL (scV (rE n.toNat) S))), w) := by
  have rp := rB_pos n.toNat (by omega)
  exact Z_146 h.1 (Or.inl rfl) ⟨_, _, R_below h n0 hn, h.1, s64, fun q => by omega, fun _ => ⟨_, _, R_whole h n0 hn, h.1, _, _, R_above h n0 hn, h.1, S64, by omega, _, tdN S0, rfl⟩⟩
theorem L_homog (h : cst E t ws me w) {e : Nat} {a b S : Int} {n : Nat} (n38 : n ≤ 38) {sc : Nat → Int} (he : isO w e 4) (H : ∀ j : Nat, j ≤ n → xCall 146 [.ref e, .int (jI (j : Int)), .long (jL S)] w (some (.long (jL (sc j))), w)) : ∀ j : Nat, j ≤ n + 1 →
    xGo 145 9 [some (.ref 0), some (.ref e), some (.int (jI (n : Int))), some (.long (jL a)), none, some (.long (jL b)), none, some (.long (jL S)), none, some (.long (jL (evP (hmC n b sc) a (n + 1 - j) j))), none, some (.long (jL (b ^ (n + 1 - j)))), none, some (.int (jI ((j : Int) - 1)))] [] w (some (.long (jL (evP (hmC n b sc) a (n + 1) 0))), w) := by
  intro j
  induction j with
  | zero =>
    intro _
    exact Z_145_9 h.1 ⟨s32, fun _ => rfl, fun q => by omega⟩
  | succ j ih =>
    intro hj
    have g := ih (by omega)
    have e1 : n + 1 - j = (n + 1 - (j + 1)) + 1 := by omega
    have e2 : evP (hmC n b sc) a (n + 1 - j) j = evP (hmC n b sc) a (n + 1 - (j + 1)) (j + 1) * a + ((cb n j : Nat) : Int) * sc (n - j) * b ^ (n + 1 - (j + 1)) := by
      rw [e1]
      show hmC n b sc j + a * evP (hmC n b sc) a (n + 1 - (j + 1)) (j + 1) = _
      rw [Int.add_comm, Int.mul_comm a]
      show _ + ((cb n j : Nat) : Int) * sc (n - j) * b ^ (n - j) = _
      rw [show n + 1 - (j + 1) = n - j by omega]
    rw [e2, e1, Int.pow_succ] at g
    have sj := H (n - j) (by omega)
    rw [show ((n - j : Nat) : Int) = (n : Int) - (j : Int) by omega] at sj
    have o := C_of h (n := (n : Int)) (k := (j : Int)) (by omega) (by omega) (by omega) (by omega)
    rw [Int.toNat_natCast, Int.toNat_natCast] at o
    rw [show (((j + 1 : Nat) : Int) - 1) = (j : Int) by omega]
    exact Z_145_9 h.1 ⟨s32, fun q => by omega, fun _ => ⟨_, _, o, h.1, he, _, _, sj, h.1, g⟩⟩
theorem C_homog (h : cst E t ws me w) {e : Nat} {a b S : Int} {n : Nat} (n38 : n ≤ 38) {sc : Nat → Int} (he : isO w e 4) (H : ∀ j : Nat, j ≤ n → xCall 146 [.ref e, .int (jI (j : Int)), .long (jL S)] w (some (.long (jL (sc j))), w)) : xCall 145 [.ref 0, .ref e, .int (jI (n : Int)), .long (jL a), .long (jL b), .long (jL S)] w (some (.long (jL (evP (hmC n b sc) a (n + 1) 0))), w) := by
  have g := L_homog h n38 (a := a) (b := b) he H (n + 1) (by omega)
  rw [show n + 1 - (n + 1) = 0 by omega, Int.pow_zero, show (((n + 1 : Nat) : Int) - 1) = (n : Int) by omega] at g
  exact Z_145 h.1 g
/-! value -/
def vaN (E : eT) (n a b : Int) : Int := evP (hmC n.toNat b (fun j => scV (E j) 2310)) a (n.toNat + 1) 0
def vaD (n b : Int) : Int := 2310 * b ^ n.toNat
abbrev vaP (t n a b x : Int) : Prop := (0 ≤ n ∧ n ≤ 10) ∧ (-9 ≤ a ∧ a ≤ 9) ∧ (1 ≤ b ∧ b ≤ 6) ∧ (0 ≤ x ∧ x ≤ 2) ∧ n ≤ t
def vaS (E : eT) (t n a b x : Int) : Int := if vaP t n a b x then frX (frE (vaN E n a b) (vaD n b)) x else lNO
theorem rB10 : ∀ n : Nat, n < 11 → rB n ∣ 2310 ∧ -1 ≤ rW n ∧ rW n ≤ 1 := by decide +kernel
theorem e10 (ok : okS c E t ws me) {j : Nat} (j10 : j ≤ 10) (hj : (j : Int) ≤ t) : (E j).2.2 ∣ 2310 ∧ -12480930 ≤ scV (E j) 2310 ∧ scV (E j) 2310 ≤ 12480930 := by
  obtain ⟨a1, a2, a3, a4, a5, a6⟩ := ok.2.2.2.1 j hj
  have r := rB10 j (by omega)
  have hc := ok.1
  have d := Int.dvd_trans a3 r.1
  have p := tv_part (a := (E j).2.1) (b := (E j).2.2) (U := 2310) (by decide) a1 a2 d
  unfold scV
  exact ⟨d, by omega, by omega⟩
theorem vaD_b {n b : Int} (n0 : 0 ≤ n) (n10 : n ≤ 10) (b1 : 1 ≤ b) (b6 : b ≤ 6) : 1 ≤ vaD n b ∧ vaD n b ≤ 139676866560 := by
  have p := pw_le (b := b) (B := 6) (by omega) b6 n.toNat
  have q := pw_le (b := 1) (B := b) (by decide) b1 n.toNat
  have r : (6 : Int) ^ n.toNat ≤ 6 ^ 10 := by
    have : ∀ k : Nat, k < 11 → (6 : Int) ^ k ≤ 6 ^ 10 := by decide
    exact this n.toNat (by omega)
  have s : (1 : Int) ^ n.toNat = 1 := Int.one_pow
  unfold vaD
  rw [s] at q
  have : (6 : Int) ^ 10 = 60466176 := by decide
  omega
theorem vaN_b (ok : okS c E t ws me) {n a b : Int} (n0 : 0 ≤ n) (n10 : n ≤ 10) (nt : n ≤ t) (a1 : -9 ≤ a) (a2 : a ≤ 9) (b1 : 1 ≤ b) (b6 : b ≤ 6) : -8000000000000000000 ≤ vaN E n a b ∧ vaN E n a b ≤ 8000000000000000000 := by
  have k := evP_b (co := hmC n.toNat b (fun j => scV (E j) 2310)) (u := fun k => (cb n.toNat k : Nat) * (6 : Int) ^ (n.toNat - k)) (a := a) (A := 9) (M := 12480930) (by decide) (fun k => hmC_b (by decide) (by omega) b6 (fun j hj => (e10 ok (by omega) (by omega)).2) k) (fun k => Int.mul_nonneg (by omega) (pw_le (b := 6) (B := 6) (by decide) (by decide) _).1) a1 a2 (n.toNat + 1) 0
  have v := v10_c n.toNat (by omega)
  unfold vaN
  omega
theorem L_value (h : cst E t ws me w) (ok : okS c E t ws me) {n a b x : Int} (v : vaP t n a b x) : ∀ (k i : Nat), (i : Int) + k = n →
    ∃ w', xGo 169 61 [some (.ref 0), some (.int (jI n)), some (.int (jI a)), some (.int (jI b)), some (.int (jI x)), some (.long (jL (2310 * b ^ i))), none, some (.int (jI (i : Int)))] [] w (some (.long (jL (frX (frE (vaN E n a b) (vaD n b)) x))), w') ∧ cst E t ws me w' ∧ xsame [36] w w' := by
  obtain ⟨⟨n0, n10⟩, ⟨a1, a2⟩, ⟨b1, b6⟩, hx, nt⟩ := v
  intro k
  induction k with
  | zero =>
    intro i hi
    have nb := vaN_b ok n0 n10 nt a1 a2 b1 b6
    have db := vaD_b n0 n10 b1 b6
    have hm := C_homog h (e := 12) (a := a) (b := b) (S := 2310) (n := n.toNat) (by omega) (sc := fun j => scV (E j) 2310) (ko_12 h.1) (fun j hj => by
      have s := C_scaledN h ok (n := (j : Int)) (S := 2310) (by omega) (by omega) (by decide) s64
      rw [Int.toNat_natCast] at s
      exact s)
    rw [Int.toNat_of_nonneg n0] at hm
    have bc := bc36 h.1 (nw := 0) (na := vaN E n a b) (nb := vaD n b) (by omega) ⟨by omega, by omega⟩ ⟨by omega, by omega⟩
    rw [Int.zero_mul, Int.zero_add] at bc
    have f := fw h.1 (frE (vaN E n a b) (vaD n b)).1 (frE (vaN E n a b) (vaD n b)).2.1 (frE (vaN E n a b) (vaD n b)).2.2
    rw [show i = n.toNat by omega]
    exact ⟨_, Z_169_61 h.1 ⟨s32, s32, fun _ => ⟨s32, s32, _, _, hm, h.1, _, bc, f.1, _, _, td36 hx f.2.1, f.1, rfl⟩, fun q => by omega⟩, h.f36 _ _ _, f.2.2⟩
  | succ k ih =>
    intro i hi
    obtain ⟨w', g1, g2, g3⟩ := ih (i + 1) (by omega)
    rw [Int.pow_succ, ← Int.mul_assoc] at g1
    exact ⟨w', Z_169_61 h.1 ⟨s32, s32, fun q => by omega, fun _ => ⟨s32, g1⟩⟩, g2, g3⟩
theorem c_value (ok : okS c E t ws me) {n a b x : Int} (hn : in32 n) (ha : in32 a) (hb : in32 b) (hx : in32 x) : cAns E t ws me E t ws me 169 [.int (jI n), .int (jI a), .int (jI b), .int (jI x)] (.long (jL (vaS E t n a b x))) := by
  intro w h
  have ht1 := ok.2.1
  have ht := ok.2.2.1
  by_cases v : vaP t n a b x
  · obtain ⟨w', g1, g2, g3⟩ := L_value h ok v n.toNat 0 (by have := v.1.1; omega)
    rw [show vaS E t n a b x = _ from if_pos v]
    rw [Int.pow_zero] at g1
    obtain ⟨⟨n0, n10⟩, ⟨a1, a2⟩, ⟨b1, b6⟩, hx2, nt⟩ := v
    exact ⟨w', Z_169 h.1 ⟨hn, fun q => by omega, fun _ => ⟨fun q => by omega, fun _ => ⟨ha, fun q => by omega, fun _ => ⟨fun q => by omega, fun _ => ⟨hb, fun q => by omega, fun _ => ⟨fun q => by omega, fun _ => ⟨_, _, _, C_isPart hx w, h.1, fun q => absurd hx2 q, fun _ => ⟨_, h.top, s32, fun _ => g1, fun q => by omega⟩⟩⟩⟩⟩⟩⟩⟩, g2, g3.mono (by decide)⟩
  · rw [show vaS E t n a b x = lNO from if_neg v]
    exact ⟨w, Z_169 h.1 ⟨hn, fun _ => rfl, fun q1 => ⟨fun _ => rfl, fun q2 => ⟨ha, fun _ => rfl, fun q3 => ⟨fun _ => rfl, fun q4 => ⟨hb, fun _ => rfl, fun q5 => ⟨fun _ => rfl, fun q6 => ⟨_, _, _, C_isPart hx w, h.1, fun _ => rfl, fun q7 => ⟨_, h.top, s32, fun q8 => absurd ⟨⟨q1, q2⟩, ⟨q3, q4⟩, ⟨q5, q6⟩, q7, q8⟩ v, fun _ => rfl⟩⟩⟩⟩⟩⟩⟩⟩, h, xsame.rf⟩
theorem sc_env {e : Int × Int × Int} {S : Int} (hb : 0 < e.2.2) (d : e.2.2 ∣ S) : enV e * (S / e.2.2) = scV e S := by
  have q : e.2.2 * (S / e.2.2) = S := Int.mul_ediv_cancel' d
  unfold enV scV
  rw [Int.add_mul, Int.mul_assoc, q]
theorem ev_st {co : Nat → Int} {a : Int} {m j : Nat} {S V : Int} (h : S + a ^ j * evP co a (m + 1) j = V) : S + co j * a ^ j + a ^ (j + 1) * evP co a m (j + 1) = V := by
  rw [← h]
  show S + co j * a ^ j + a ^ (j + 1) * evP co a m (j + 1) = S + a ^ j * (co j + a * evP co a m (j + 1))
  rw [Int.mul_add, Int.pow_succ, Int.mul_comm (co j), ← Int.mul_assoc (a ^ j) a]
  omega
theorem dF62 {w : xW} (hC : CS w) {N D x : Int} (hx : 0 ≤ x ∧ x ≤ 2) (n1 : -9000000000000000000 ≤ N) (n2 : N ≤ 9000000000000000000) (d1 : 1 ≤ D) (d2 : D ≤ 9000000000000000000) : xCall 193 [.long (jL N), .long (jL D)] w (some (.long (jL (N / D))), w) ∧ xCall 194 [.ref 39, .ref 62, .int (jI 0), .long (jL (N / D)), .long (jL (N - N / D * D)), .long (jL D)] w (none, l3 w 62 0 (frE N D).1 (frE N D).2.1 (frE N D).2.2) ∧ rL (l3 w 62 0 (frE N D).1 (frE N D).2.1 (frE N D).2.2) 62 x.toNat (frX (frE N D) x) ∧ CS (l3 w 62 0 (frE N D).1 (frE N D).2.1 (frE N D).2.2) := by
  have dm := dm_e N D
  have m0 := Int.emod_nonneg N (show D ≠ 0 by omega)
  have m1 := Int.emod_lt_of_pos N (show 0 < D by omega)
  have e : N - N / D * D = N % D := by omega
  have lp := lp62 hC (x := N / D) m0 m1 d2
  rw [← dm] at lp
  rw [e]
  exact ⟨C_downBy ⟨by omega, by omega⟩ ⟨by omega, by omega⟩ (by omega) w hC, lp, rd62 hC hx, l3_C hC⟩
theorem L_mvalue (h : mst E t ws me w) (ok : okS c E t ws me) {n a b x : Int} (v : vaP t n a b x) : ∀ (k i : Nat) (S : Int), (i : Int) + k = n + 1 → S + a ^ i * evP (hmC n.toNat b (fun j => scV (E j) 2310)) a k i = vaN E n a b →
    xGo 291 64 [some (.ref 39), some (.int (jI n)), some (.int (jI a)), some (.int (jI b)), some (.int (jI x)), some (.long (jL S)), none, some (.int (jI (i : Int))), none, none, none] [] w (some (.long (jL (frX (frE (vaN E n a b) (vaD n b)) x))), l3 w 62 0 (frE (vaN E n a b) (vaD n b)).1 (frE (vaN E n a b) (vaD n b)).2.1 (frE (vaN E n a b) (vaD n b)).2.2) := by
  have ht := ok.2.2.1
  obtain ⟨⟨n0, n10⟩, ⟨a1, a2⟩, ⟨b1, b6⟩, hx, nt⟩ := v
  have nb := vaN_b ok n0 n10 nt a1 a2 b1 b6
  have db := vaD_b n0 n10 b1 b6
  intro k
  induction k with
  | zero =>
    intro i S hi hS
    have e : S = vaN E n a b := by
      have : evP (hmC n.toNat b (fun j => scV (E j) 2310)) a 0 i = 0 := rfl
      rw [this, Int.mul_zero] at hS
      omega
    rw [e]
    obtain ⟨g1, g2, g3, g4⟩ := dF62 h.1 (N := vaN E n a b) (D := vaD n b) hx (by omega) (by omega) (by omega) (by omega)
    exact Z_291_64 h.1 ⟨s32, s32, fun _ => ⟨s32, _, _, C_raised h.1 n0 (by omega), h.1, _, _, g1, h.1, _, g2, g4, hx.1, _, g3, rfl⟩, fun q => by omega⟩
  | succ k ih =>
    intro i S hi hS
    have g := ih (i + 1) _ (by omega) (ev_st hS)
    have eb := ok_e ok (n := n - i) (by omega) (by omega)
    have ed := e10 ok (j := (n - (i : Int)).toNat) (by omega) (by omega)
    obtain ⟨r0, r1, r2⟩ := M_nw h ht (n := n - i) (by omega) (by omega) rfl
    have rc := h.cb (n := n.toNat) (k := i) (by omega) (by omega)
    rw [show 40 * n.toNat + i = (40 * n + (i : Int)).toNat by omega] at rc
    have p1 := C_raised h.1 (a := a) (n := (i : Int)) (by omega) (by omega)
    rw [Int.toNat_natCast] at p1
    have p2 := C_raised h.1 (a := b) (n := n - (i : Int)) (by omega) (by omega)
    refine Z_291_64 h.1 ⟨s32, s32, fun q => by omega, fun _ => ⟨by omega, _, rc, by omega, _, r0, by omega, _, r2, by omega, _, r1, by omega, _, r2, eb.2.2.1, by omega, _, tdN (by decide), s32, _, _, p1, h.1, s32, _, _, p2, h.1, fun v47 e47 => ?_⟩⟩
    have se := sc_env (e := E (n - (i : Int)).toNat) (S := 2310) eb.2.2.2.1 ed.1
    have e2 : v47 = S + hmC n.toNat b (fun j => scV (E j) 2310) i * a ^ i := by
      rw [e47]
      congr 1
      show ((cb n.toNat i : Nat) : Int) * enV (E (n - (i : Int)).toNat) * (2310 / (E (n - (i : Int)).toNat).2.2) * a ^ i * b ^ (n - (i : Int)).toNat = ((cb n.toNat i : Nat) : Int) * scV (E (n.toNat - i)) 2310 * b ^ (n.toNat - i) * a ^ i
      rw [show n.toNat - i = (n - (i : Int)).toNat by omega, ← se]
      ac_rfl
    rw [e2]
    exact g
theorem m_value (ok : okS c E t ws me) {n a b x : Int} (hn : in32 n) (ha : in32 a) (hb : in32 b) (hx : in32 x) : mAns E t ws me E t ws me 291 [.int (jI n), .int (jI a), .int (jI b), .int (jI x)] (.long (jL (vaS E t n a b x))) := by
  intro w h0
  have h := h0.p0 (v := jI 0)
  have s0 : xsame mAll w (pF w 39 0 (.int (jI 0))) := sm_pF (by decide)
  have ht1 := ok.2.1
  have ht := ok.2.2.1
  by_cases v : vaP t n a b x
  · have g := L_mvalue h ok v (n.toNat + 1) 0 0 (by have := v.1.1; omega) (by rw [Int.pow_zero, Int.one_mul, Int.zero_add]; rfl)
    rw [show vaS E t n a b x = _ from if_pos v]
    refine ⟨l3 (pF w 39 0 (.int (jI 0))) 62 0 (frE (vaN E n a b) (vaD n b)).1 (frE (vaN E n a b) (vaD n b)).2.1 (frE (vaN E n a b) (vaD n b)).2.2, Z_291 h0.1 (fun w3 e _ => ?_), h.same1 l3_sm (l3_C h.1), s0.trans (l3_sm.mono (by decide))⟩
    subst e
    exact ⟨_, _, _, C_isIn hn s32 s32 _, h.1, fun q => absurd v.1 q, fun _ => ⟨_, _, _, C_isIn ha s32 s32 _, h.1, fun q => absurd v.2.1 q, fun _ => ⟨_, _, _, C_isIn hb s32 s32 _, h.1, fun q => absurd v.2.2.1 q, fun _ => ⟨_, _, _, C_isIn hx s32 s32 _, h.1, fun q => absurd v.2.2.2.1 q, fun _ => ⟨_, h.top, hn, s32, fun _ => g, fun q => by have := v.2.2.2.2; omega⟩⟩⟩⟩⟩
  · rw [show vaS E t n a b x = lNO from if_neg v]
    refine ⟨_, Z_291 h0.1 (fun w3 e _ => ?_), h, s0⟩
    subst e
    exact ⟨_, _, _, C_isIn hn s32 s32 _, h.1, fun _ => rfl, fun q1 => ⟨_, _, _, C_isIn ha s32 s32 _, h.1, fun _ => rfl, fun q2 => ⟨_, _, _, C_isIn hb s32 s32 _, h.1, fun _ => rfl, fun q3 => ⟨_, _, _, C_isIn hx s32 s32 _, h.1, fun _ => rfl, fun q4 => ⟨_, h.top, hn, s32, fun q5 => absurd ⟨q1, q2, q3, q4, q5⟩ v, fun _ => rfl⟩⟩⟩⟩⟩
end P6
