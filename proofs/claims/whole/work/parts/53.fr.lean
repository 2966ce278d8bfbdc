/-! fractions told in lowest terms are the same when they are equal -/
def frE (N D : Int) : Int × Int × Int := (N / D, prA (N % D) D, prB (N % D) D)
theorem frE_scale {N D k : Int} (hk : 0 < k) : frE (k * N) (k * D) = frE N D := by
  have e1 : k * N / (k * D) = N / D := Int.mul_ediv_mul_of_pos _ _ hk
  have e2 : k * N % (k * D) = k * (N % D) := Int.mul_emod_mul_of_pos _ _ hk
  have e3 : ((Int.gcd (k * (N % D)) (k * D) : Nat) : Int) = k * ((Int.gcd (N % D) D : Nat) : Int) := by
    rw [Int.gcd_mul_left, Int.natCast_mul, Int.natAbs_of_nonneg (by omega)]
  unfold frE prA prB
  rw [e1, e2, e3, Int.mul_ediv_mul_of_pos _ _ hk, Int.mul_ediv_mul_of_pos _ _ hk]
theorem fr_cross {N D N' D' : Int} (hD : 0 < D) (hD' : 0 < D') (h : N * D' = N' * D) : frE N D = frE N' D' := by
  rw [← frE_scale (N := N) (D := D) hD', ← frE_scale (N := N') (D := D') hD, Int.mul_comm D' N, h, Int.mul_comm N' D, Int.mul_comm D' D]
theorem nf_fr {nw na nb : Int} (hb : 0 < nb) : (nfW nw na nb, nfA na nb, nfB na nb) = frE (nw * nb + na) nb := by
  have m0 := Int.emod_nonneg na (show nb ≠ 0 by omega)
  have m1 := Int.emod_lt_of_pos na hb
  have e1 : (nw * nb + na) / nb = nw + na / nb := by rw [Int.mul_comm, Int.mul_add_ediv_left _ _ (by omega)]
  have e2 : (nw * nb + na) % nb = na % nb := by rw [Int.mul_comm, Int.mul_add_emod_self_left]
  obtain ⟨p1, p2⟩ := nf_pr m0 m1
  have q1 : nfA (na % nb) nb = nfA na nb := by unfold nfA nfG; rw [Int.emod_emod]
  have q2 : nfB (na % nb) nb = nfB na nb := by unfold nfB nfG; rw [Int.emod_emod]
  unfold frE
  rw [e1, e2, ← p1, ← p2, q1, q2]
  rfl
theorem pr_fr {x a b : Int} (h0 : 0 ≤ a) (h1 : a < b) : (x, prA a b, prB a b) = frE (x * b + a) b := by
  have e1 : (x * b + a) / b = x := by rw [Int.mul_comm, Int.mul_add_ediv_left _ _ (by omega), Int.ediv_eq_zero_of_lt h0 h1, Int.add_zero]
  have e2 : (x * b + a) % b = a := by rw [Int.mul_comm, Int.mul_add_emod_self_left, Int.emod_eq_of_lt h0 h1]
  unfold frE
  rw [e1, e2]
theorem frE_ok {N D : Int} (hD : 0 < D) : 0 ≤ (frE N D).2.1 ∧ (frE N D).2.1 < (frE N D).2.2 ∧ (frE N D).2.2 ∣ D ∧ Int.gcd (frE N D).2.1 (frE N D).2.2 = 1 := by
  have m0 := Int.emod_nonneg N (show D ≠ 0 by omega)
  have m1 := Int.emod_lt_of_pos N hD
  obtain ⟨p1, p2⟩ := nf_pr m0 m1
  have k := nf_ok (a := N % D) hD
  rw [p1, p2] at k
  exact k
theorem frE_pos {N D : Int} (hD : 0 < D) : 0 < (frE N D).2.2 ∧ (frE N D).2.2 ≤ D := by
  obtain ⟨a, b, d, e⟩ := frE_ok (N := N) hD
  exact ⟨by omega, Int.le_of_dvd hD d⟩
theorem enV_fr {N D : Int} (hD : 0 < D) : enV (frE N D) * D = N * (frE N D).2.2 := by
  have g0 := pr_g (a := N % D) hD
  have eA : prA (N % D) D * ((Int.gcd (N % D) D : Nat) : Int) = N % D := Int.ediv_mul_cancel (Int.gcd_dvd_left ..)
  have eB : prB (N % D) D * ((Int.gcd (N % D) D : Nat) : Int) = D := Int.ediv_mul_cancel (Int.gcd_dvd_right ..)
  have dm := dm_e N D
  show (N / D * prB (N % D) D + prA (N % D) D) * D = N * prB (N % D) D
  have s : (N / D * prB (N % D) D + prA (N % D) D) * (prB (N % D) D * ((Int.gcd (N % D) D : Nat) : Int)) = (N / D * (prB (N % D) D * ((Int.gcd (N % D) D : Nat) : Int)) + prA (N % D) D * ((Int.gcd (N % D) D : Nat) : Int)) * prB (N % D) D := by
    rw [Int.add_mul, Int.add_mul]
    congr 1
    · rw [Int.mul_assoc, Int.mul_assoc, Int.mul_comm (prB (N % D) D) (prB (N % D) D * _)]
    · rw [Int.mul_comm (prB (N % D) D), ← Int.mul_assoc]
  rw [eB, eA, ← dm] at s
  exact s
theorem frE_id {e : Int × Int × Int} (h0 : 0 ≤ e.2.1) (h1 : e.2.1 < e.2.2) (hg : Int.gcd e.2.1 e.2.2 = 1) : frE (enV e) e.2.2 = e := by
  have a := pr_fr (x := e.1) h0 h1
  have g : prA e.2.1 e.2.2 = e.2.1 ∧ prB e.2.1 e.2.2 = e.2.2 := by
    unfold prA prB
    rw [hg]
    exact ⟨Int.ediv_one _, Int.ediv_one _⟩
  rw [g.1, g.2] at a
  exact a.symm
theorem mlE_fr {f : Int} {e : Int × Int × Int} (hb : 0 < e.2.2) : mlE f e = frE (f * enV e) e.2.2 := by
  have a := nf_fr (nw := f * e.1) (na := f * e.2.1) hb
  unfold mlE enV
  rw [a, Int.mul_add, Int.mul_assoc]
theorem dvE_fr {d : Int} {e : Int × Int × Int} (hb : 0 < e.2.2) (hd : 0 < d) : dvE d e = frE (enV e) (e.2.2 * d) := by
  have a := nf_fr (nw := e.1 / d) (na := e.1 % d * e.2.2 + e.2.1) (Int.mul_pos hb hd)
  have dm := dm_e e.1 d
  unfold dvE
  rw [a]
  congr 1
  show e.1 / d * (e.2.2 * d) + (e.1 % d * e.2.2 + e.2.1) = e.1 * e.2.2 + e.2.1
  have s : e.1 / d * (e.2.2 * d) + e.1 % d * e.2.2 = (e.1 / d * d + e.1 % d) * e.2.2 := by
    rw [Int.add_mul, Int.mul_comm e.2.2 d, Int.mul_assoc]
  rw [← dm] at s
  omega
theorem fr_mul {N D f : Int} (hD : 0 < D) : frE (f * enV (frE N D)) (frE N D).2.2 = frE (f * N) D :=
  fr_cross (frE_pos hD).1 hD (by rw [Int.mul_assoc, enV_fr hD, Int.mul_assoc])
theorem fr_div {N D d : Int} (hD : 0 < D) (hd : 0 < d) : frE (enV (frE N D)) ((frE N D).2.2 * d) = frE N (D * d) :=
  fr_cross (Int.mul_pos (frE_pos hD).1 hd) (Int.mul_pos hD hd) (by rw [← Int.mul_assoc, enV_fr hD, Int.mul_assoc])
def frX (e : Int × Int × Int) (i : Int) : Int := frT e.1 e.2.1 e.2.2 i
theorem rd62 {w : xW} (hC : CS w) {e : Int × Int × Int} {x : Int} (hx : 0 ≤ x ∧ x ≤ 2) : rL (l3 w 62 0 e.1 e.2.1 e.2.2) 62 x.toNat (frX e x) := by
  have g := l3_get (w := w) (a := 62) (n := 0) (x := e.1) (y := e.2.1) (z := e.2.2) (kl_62 hC) (by decide) (by decide)
  unfold frX frT
  by_cases x0 : x = 0
  · rw [if_pos x0, x0]; exact g.1
  · rw [if_neg x0]
    by_cases x1 : x = 1
    · rw [if_pos x1, x1]; exact g.2.1
    · rw [if_neg x1, show x = 2 by omega]; exact g.2.2
theorem lp62 {w : xW} (hC : CS w) {x a b : Int} (a0 : 0 ≤ a) (ab : a < b) (b2 : b ≤ 9000000000000000000) : xCall 194 [.ref 39, .ref 62, .int (jI 0), .long (jL x), .long (jL a), .long (jL b)] w (none, l3 w 62 0 (frE (x * b + a) b).1 (frE (x * b + a) b).2.1 (frE (x * b + a) b).2.2) := by
  have lp := C_laysProper hC (a1 := 62) (n := 0) (x := x) (a := a) (b := b) (kl_62 hC) (by decide) (by decide) (by decide) (by omega) (by omega) (by omega) b2
  rw [← pr_fr a0 ab]
  exact lp
theorem td36 {w : xW} {e : Int × Int × Int} {x : Int} (hx : 0 ≤ x ∧ x ≤ 2) (h : w[36]? = some (frac e.1 e.2.1 e.2.2)) : xCall 117 [.ref 36, .int (jI x)] w (some (.long (jL (frX e x))), w) := C_told hx h
theorem bc36 {w : xW} (hC : CS w) {nw na nb : Int} (hb : 0 < nb) (h2 : in64 na) (h3 : in64 nb) : xCall 16 [.ref 36, .long (jL nw), .long (jL na), .long (jL nb)] w (none, w.set 36 (frac (frE (nw * nb + na) nb).1 (frE (nw * nb + na) nb).2.1 (frE (nw * nb + na) nb).2.2)) := by
  obtain ⟨x, y, z, f⟩ := hC.fr36
  rw [← nf_fr hb]
  exact C_become f hb h2 h3
theorem mf36 {w : xW} {f : Int} {e : Int × Int × Int} (hC : CS w) (h : w[36]? = some (frac e.1 e.2.1 e.2.2)) (hz : 0 < e.2.2) (h2 : in64 (f * e.2.1)) (h3 : in64 e.2.2) : xCall 43 [.ref 36, .long (jL f)] w (none, w.set 36 (frac (frE (f * enV e) e.2.2).1 (frE (f * enV e) e.2.2).2.1 (frE (f * enV e) e.2.2).2.2)) := by
  rw [← mlE_fr hz]
  exact m36 hC h hz h2 h3
theorem df36 {w : xW} {d : Int} {e : Int × Int × Int} (hC : CS w) (h : w[36]? = some (frac e.1 e.2.1 e.2.2)) (hz : 0 < e.2.2) (hd : 0 < d) (d64 : in64 d) (x64 : in64 e.1) (h2 : in64 (e.1 % d * e.2.2 + e.2.1)) (h3 : in64 (e.2.2 * d)) : xCall 44 [.ref 36, .long (jL d)] w (none, w.set 36 (frac (frE (enV e) (e.2.2 * d)).1 (frE (enV e) (e.2.2 * d)).2.1 (frE (enV e) (e.2.2 * d)).2.2)) := by
  rw [← dvE_fr hz hd]
  exact d36 hC h hz hd d64 x64 h2 h3
section F3
variable {c : Nat} {E : eT} {t : Int} {ws : Nat → Int} {me : memT} {w : xW}
theorem C_fetchF (h : cst E t ws me w) (ok : okS c E t ws me) {n : Int} (h0 : 0 ≤ n) (hn : n ≤ t) : xCall 100 [.ref 12, .int (jI n), .ref 36] w (none, w.set 36 (frac (E n.toNat).1 (E n.toNat).2.1 (E n.toNat).2.2)) := C_fetchN h ok h0 hn
/-! poly -/
def poS (E : eT) (t n k x : Int) : Int := if ((0 ≤ n ∧ n ≤ 38) ∧ 0 ≤ k ∧ k ≤ n) ∧ (0 ≤ x ∧ x ≤ 2) ∧ n - k ≤ t then frX (frE ((cb n.toNat k.toNat : Nat) * enV (E (n - k).toNat)) (E (n - k).toNat).2.2) x else lNO
theorem mul_b {a b A B : Int} (a0 : 0 ≤ a) (a1 : a ≤ A) (b0 : 0 ≤ b) (b1 : b ≤ B) : 0 ≤ a * b ∧ a * b ≤ A * B := ⟨Int.mul_nonneg a0 b0, Int.mul_le_mul a1 b1 b0 (by omega)⟩
theorem c_poly (ok : okS c E t ws me) {n k x : Int} (hn : in32 n) (hk : in32 k) (hx : in32 x) : cAns E t ws me E t ws me 168 [.int (jI n), .int (jI k), .int (jI x)] (.long (jL (poS E t n k x))) := by
  intro w h
  have ht1 := ok.2.1
  have ht := ok.2.2.1
  by_cases a : ((0 ≤ n ∧ n ≤ 38) ∧ 0 ≤ k ∧ k ≤ n) ∧ (0 ≤ x ∧ x ≤ 2) ∧ n - k ≤ t
  · rw [show poS E t n k x = _ from if_pos a]
    have eb := ok_e ok (n := n - k) (by omega) a.2.2
    have ea := ok.2.2.2.1 (n - k).toNat (by omega)
    have f1 := fw h.1 (E (n - k).toNat).1 (E (n - k).toNat).2.1 (E (n - k).toNat).2.2
    have h1 := h.f36 (E (n - k).toNat).1 (E (n - k).toNat).2.1 (E (n - k).toNat).2.2
    have cbb := cb_41 (n := n.toNat) (k := k.toNat) (by omega)
    have mb := mul_b (a := ((cb n.toNat k.toNat : Nat) : Int)) (A := 2199023255552) (b := (E (n - k).toNat).2.1) (B := 1919190) (by omega) (by omega) ea.1 (by have := ea.2.1; omega)
    have ml := mf36 f1.1 (f := ((cb n.toNat k.toNat : Nat) : Int)) f1.2.1 eb.2.2.2.1 ⟨by omega, by omega⟩ eb.2.2.1
    have f2 := fw f1.1 (frE ((cb n.toNat k.toNat : Nat) * enV (E (n - k).toNat)) (E (n - k).toNat).2.2).1 (frE ((cb n.toNat k.toNat : Nat) * enV (E (n - k).toNat)) (E (n - k).toNat).2.2).2.1 (frE ((cb n.toNat k.toNat : Nat) * enV (E (n - k).toNat)) (E (n - k).toNat).2.2).2.2
    have sm : xsame [36] w _ := f1.2.2.trans f2.2.2
    exact ⟨_, Z_168 h.1 ⟨_, _, _, C_isEntry hn w, h.1, fun q => absurd a.1.1 q, fun _ => ⟨hk, fun q => by omega, fun _ => ⟨hn, fun q => by omega, fun _ => ⟨_, _, _, C_isPart hx w, h.1, fun q => absurd a.2.1 q, fun _ => ⟨_, h.top, s32, s32, fun _ => ⟨_, C_fetchF h ok (by omega) a.2.2, f1.1, _, _, C_of h1 (by omega) (by omega) a.1.2.1 (by omega), f1.1, _, ml, f2.1, _, _, td36 a.2.1 f2.2.1, f2.1, rfl⟩, fun q => by omega⟩⟩⟩⟩⟩, h.same sm (by decide) f2.1, sm.mono (by decide)⟩
  · rw [show poS E t n k x = lNO from if_neg a]
    exact ⟨w, Z_168 h.1 ⟨_, _, _, C_isEntry hn w, h.1, fun _ => rfl, fun q1 => ⟨hk, fun _ => rfl, fun q2 => ⟨hn, fun _ => rfl, fun q3 => ⟨_, _, _, C_isPart hx w, h.1, fun _ => rfl, fun q4 => ⟨_, h.top, s32, s32, fun q5 => absurd ⟨⟨q1, q2, q3⟩, q4, q5⟩ a, fun _ => rfl⟩⟩⟩⟩⟩, h, xsame.rf⟩
theorem m_poly (ok : okS c E t ws me) {n k x : Int} (hn : in32 n) (hk : in32 k) (hx : in32 x) : mAns E t ws me E t ws me 290 [.int (jI n), .int (jI k), .int (jI x)] (.long (jL (poS E t n k x))) := by
  intro w h0
  have h := h0.p0 (v := jI 0)
  have s0 : xsame mAll w (pF w 39 0 (.int (jI 0))) := sm_pF (by decide)
  have ht1 := ok.2.1
  have ht := ok.2.2.1
  by_cases a : ((0 ≤ n ∧ n ≤ 38) ∧ 0 ≤ k ∧ k ≤ n) ∧ (0 ≤ x ∧ x ≤ 2) ∧ n - k ≤ t
  · rw [show poS E t n k x = _ from if_pos a]
    have eb := ok_e ok (n := n - k) (by omega) a.2.2
    have ea := ok.2.2.2.1 (n - k).toNat (by omega)
    have cbb := cb_41 (n := n.toNat) (k := k.toNat) (by omega)
    have mb := mul_b (a := ((cb n.toNat k.toNat : Nat) : Int)) (A := 2199023255552) (b := (E (n - k).toNat).2.1) (B := 1919190) (by omega) (by omega) ea.1 (by have := ea.2.1; omega)
    obtain ⟨r0, r1, r2⟩ := M_nw h ht (n := n - k) (by omega) a.2.2 rfl
    have rc := h.cb (n := n.toNat) (k := k.toNat) (by omega) (by omega)
    rw [show 40 * n.toNat + k.toNat = (40 * n + k).toNat by omega] at rc
    have m0 := Int.emod_nonneg (((cb n.toNat k.toNat : Nat) : Int) * (E (n - k).toNat).2.1) (show (E (n - k).toNat).2.2 ≠ 0 by omega)
    have m1 := Int.emod_lt_of_pos (((cb n.toNat k.toNat : Nat) : Int) * (E (n - k).toNat).2.1) eb.2.2.2.1
    have lp := lp62 h.1 (x := ((cb n.toNat k.toNat : Nat) : Int) * (E (n - k).toNat).1 + ((cb n.toNat k.toNat : Nat) : Int) * (E (n - k).toNat).2.1 / (E (n - k).toNat).2.2) m0 m1 (by omega)
    have eN : (((cb n.toNat k.toNat : Nat) : Int) * (E (n - k).toNat).1 + ((cb n.toNat k.toNat : Nat) : Int) * (E (n - k).toNat).2.1 / (E (n - k).toNat).2.2) * (E (n - k).toNat).2.2 + ((cb n.toNat k.toNat : Nat) : Int) * (E (n - k).toNat).2.1 % (E (n - k).toNat).2.2 = ((cb n.toNat k.toNat : Nat) : Int) * enV (E (n - k).toNat) := by
      have dm := dm_e (((cb n.toNat k.toNat : Nat) : Int) * (E (n - k).toNat).2.1) (E (n - k).toNat).2.2
      unfold enV
      rw [Int.add_mul, Int.mul_add, Int.mul_assoc, Int.add_assoc, ← dm]
    rw [eN] at lp
    have rd := rd62 h.1 (e := frE ((cb n.toNat k.toNat : Nat) * enV (E (n - k).toNat)) (E (n - k).toNat).2.2) a.2.1
    have c3 := l3_C h.1 (a := 62) (n := 0) (x := (frE ((cb n.toNat k.toNat : Nat) * enV (E (n - k).toNat)) (E (n - k).toNat).2.2).1) (y := (frE ((cb n.toNat k.toNat : Nat) * enV (E (n - k).toNat)) (E (n - k).toNat).2.2).2.1) (z := (frE ((cb n.toNat k.toNat : Nat) * enV (E (n - k).toNat)) (E (n - k).toNat).2.2).2.2)
    refine ⟨_, Z_290 h0.1 (fun w3 e _ => ?_), h.same1 l3_sm c3, s0.trans (l3_sm.mono (by decide))⟩
    subst e
    exact ⟨_, _, _, C_misEntry hn _, h.1, fun q => absurd a.1.1 q, fun _ => ⟨_, _, _, C_isIn hk s32 hn _, h.1, fun q => absurd a.1.2 q, fun _ => ⟨_, _, _, C_isIn hx s32 s32 _, h.1, fun q => absurd a.2.1 q, fun _ => ⟨_, h.top, s32, s32, fun _ => ⟨by omega, _, rc, by omega, _, r1, by omega, _, r0, by omega, _, r2, ⟨by omega, by omega⟩, eb.2.2.1, by omega, _, tdN mb.1, by omega, _, r2, eb.2.2.1, by omega, _, tmN mb.1, by omega, _, r2, _, lp, c3, a.2.1.1, _, rd, rfl⟩, fun q => by omega⟩⟩⟩⟩
  · rw [show poS E t n k x = lNO from if_neg a]
    refine ⟨_, Z_290 h0.1 (fun w3 e _ => ?_), h, s0⟩
    subst e
    exact ⟨_, _, _, C_misEntry hn _, h.1, fun _ => rfl, fun q1 => ⟨_, _, _, C_isIn hk s32 hn _, h.1, fun _ => rfl, fun q2 => ⟨_, _, _, C_isIn hx s32 s32 _, h.1, fun _ => rfl, fun q3 => ⟨_, h.top, s32, s32, fun q4 => absurd ⟨⟨q1, q2⟩, q3, q4⟩ a, fun _ => rfl⟩⟩⟩⟩
end F3
