/-! COMMON DIVISORS OF THE MODEL; entries written -/
theorem L_common {w : xW} (hC : CS w) {z0 z2 : Int} : ∀ (n : Nat) (x y : Int), 0 ≤ x → 0 ≤ y → y < n → in64 x → in64 y → xGo 195 28 [some (.long (jL z0)), none, some (.long (jL z2)), none, some (.long (jL x)), none, some (.long (jL y)), none, none, none] [] w (some (.long (jL (Int.gcd x y))), w) := by
  intro n
  induction n with
  | zero => intro x y h0 h1 h2; omega
  | succ n ih =>
    intro x y h0 h1 h2 hx hy
    refine Z_195_28 hC ⟨hy, fun d => ?_, fun d => ⟨hx, d, _, tmN h0, ?_⟩⟩
    · rw [d, Int.gcd_zero_right]
      have : ((x.natAbs : Nat) : Int) = x := Int.natAbs_of_nonneg h0
      rw [this]
    · have m0 := Int.emod_nonneg x d
      have m1 := Int.emod_lt_of_pos x (show 0 < y by omega)
      rw [gcd_step h0 h1]
      exact ih y (x % y) h1 m0 (by omega) hy ⟨by have := hy.1; omega, by have := hy.2; omega⟩
theorem C_common {w : xW} (hC : CS w) {a b : Int} (a1 : -9000000000000000000 ≤ a) (a2 : a ≤ 9000000000000000000) (b1 : -9000000000000000000 ≤ b) (b2 : b ≤ 9000000000000000000) : xCall 195 [.long (jL a), .long (jL b)] w (some (.long (jL (Int.gcd a b))), w) := by
  refine Z_195 hC ⟨s64, fun d => ⟨s64, fun e => ?_, fun e => ?_⟩, fun d => ⟨s64, fun e => ?_, fun e => ?_⟩⟩
  · exact L_common hC (b.toNat + 1) a b d e (by omega) s64 s64
  · rw [← Int.gcd_neg (a := a) (b := b)]
    exact L_common hC ((-b).toNat + 1) a (-b) d (by omega) (by omega) s64 s64
  · rw [← Int.neg_gcd (a := a) (b := b)]
    exact L_common hC (b.toNat + 1) (-a) b (by omega) e (by omega) s64 s64
  · rw [← Int.neg_gcd (a := a) (b := b), ← Int.gcd_neg (a := -a) (b := b)]
    exact L_common hC ((-b).toNat + 1) (-a) (-b) (by omega) (by omega) (by omega) s64 s64
/-- in lowest terms -/
def prA (a b : Int) : Int := a / (Int.gcd a b : Nat)
def prB (a b : Int) : Int := b / (Int.gcd a b : Nat)
theorem pr_g {a b : Int} (hb : 0 < b) : 0 < ((Int.gcd a b : Nat) : Int) := by
  have := Int.gcd_pos_of_ne_zero_right a (show b ≠ 0 by omega)
  omega
theorem nf_pr {a b : Int} (h0 : 0 ≤ a) (h1 : a < b) : nfA a b = prA a b ∧ nfB a b = prB a b := by
  unfold nfA nfB nfG prA prB
  rw [Int.emod_eq_of_lt h0 h1, Int.gcd_comm b a]
  exact ⟨rfl, rfl⟩
theorem lenL.put {w : xW} {a n i : Nat} {v : Int64} (h : lenL w a n) : lenL (pL w a i v) a n := by
  obtain ⟨f, h⟩ := h
  rw [pL_of h]
  exact ⟨_, set_get h⟩
def l3 (w : xW) (a n : Nat) (x y z : Int) : xW := pL (pL (pL w a (3 * n) (jL x)) a (3 * n + 1) (jL y)) a (3 * n + 2) (jL z)
theorem l3_sm {w : xW} {a n : Nat} {x y z : Int} : xsame [a] w (l3 w a n x y z) := ((sm_pL (by simp)).trans (sm_pL (by simp))).trans (sm_pL (by simp))
theorem l3_C {w : xW} (hC : CS w) {a n : Nat} {x y z : Int} : CS (l3 w a n x y z) := hC.putL.putL.putL
theorem l3_get {w : xW} {a n N : Nat} {x y z : Int} (h : lenL w a N) (hN : N ≤ 1000000) (hn : 3 * n + 2 < N) : rL (l3 w a n x y z) a (3 * n) x ∧ rL (l3 w a n x y z) a (3 * n + 1) y ∧ rL (l3 w a n x y z) a (3 * n + 2) z :=
  ⟨(((h.has hN (by omega)).put).put (by omega)).put (by omega), ((h.put.has hN (by omega)).put).put (by omega), (h.put.put.has hN (by omega)).put⟩
theorem l3_ne {w : xW} {a n j : Nat} {x y z v : Int} (h : rL w a j v) (h0 : j ≠ 3 * n) (h1 : j ≠ 3 * n + 1) (h2 : j ≠ 3 * n + 2) : rL (l3 w a n x y z) a j v := ((h.put h0).put h1).put h2
theorem C_lays {w : xW} (hC : CS w) {a N : Nat} {n x y z : Int} (h : lenL w a N) (hN : N ≤ 1000000) (n0 : 0 ≤ n) (hn : 3 * n + 2 < N) : xCall 189 [.ref a, .int (jI n), .long (jL x), .long (jL y), .long (jL z)] w (none, l3 w a n.toNat x y z) := by
  refine Z_189 hC ⟨⟨by omega, h.has hN (by omega)⟩, fun w3 e3 _ => ⟨⟨by omega, ?_⟩, fun w7 e7 _ => ⟨⟨by omega, ?_⟩, fun w11 e11 _ => ?_⟩⟩⟩
  · rw [e3]
    exact h.put.has hN (by omega)
  · rw [e7, e3]
    exact h.put.put.has hN (by omega)
  · rw [e11, e7, e3, show (3 * n).toNat = 3 * n.toNat by omega, show (3 * n + 1).toNat = 3 * n.toNat + 1 by omega, show (3 * n + 2).toNat = 3 * n.toNat + 2 by omega]
    rfl
theorem C_laysProper {w : xW} (hC : CS w) {a1 N : Nat} {n x a b : Int} (h : lenL w a1 N) (hN : N ≤ 1000000) (n0 : 0 ≤ n) (hn : 3 * n + 2 < N) (a0 : -9000000000000000000 ≤ a) (a2 : a ≤ 9000000000000000000) (b0 : 0 < b) (b2 : b ≤ 9000000000000000000) : xCall 194 [.ref 39, .ref a1, .int (jI n), .long (jL x), .long (jL a), .long (jL b)] w (none, l3 w a1 n.toNat x (prA a b) (prB a b)) := by
  have g := pr_g (a := a) b0
  have gd := Int.gcd_dvd_left (a := a) (b := b)
  have gd2 := Int.gcd_dvd_right (a := a) (b := b)
  have gl : ((Int.gcd a b : Nat) : Int) ≤ b := Int.le_of_dvd b0 gd2
  exact Z_194 hC ⟨_, _, C_common hC a0 a2 (by omega) b2, hC, s64, s64, by omega, _, Int.tdiv_eq_ediv_of_dvd gd, s64, by omega, _, Int.tdiv_eq_ediv_of_dvd gd2, _, C_lays hC h hN n0 hn, l3_C hC, rfl⟩
/-! remainder -/
def lNO : Int := -9223372036854775808
def frT (x y z i : Int) : Int := if i = 0 then x else if i = 1 then y else z
section RM
variable {c : Nat} {E : eT} {t : Int} {ws : Nat → Int} {me : memT} {w : xW}
def rmS (E : eT) (t n x : Int) : Int := if 1 ≤ n ∧ n ≤ t ∧ 0 ≤ x ∧ x ≤ 2 then frT (sT E (n + 1).toNat (n + 1).toNat / uA) (prA (sT E (n + 1).toNat (n + 1).toNat % uA) uA) (prB (sT E (n + 1).toNat (n + 1).toNat % uA) uA) x else lNO
theorem rmS_no {n x : Int} (h : ¬ (1 ≤ n ∧ n ≤ t ∧ 0 ≤ x ∧ x ≤ 2)) : rmS E t n x = lNO := if_neg h
theorem rmS_in {n x : Int} (h : 1 ≤ n ∧ n ≤ t ∧ 0 ≤ x ∧ x ≤ 2) : rmS E t n x = frT (sT E (n + 1).toNat (n + 1).toNat / uA) (prA (sT E (n + 1).toNat (n + 1).toNat % uA) uA) (prB (sT E (n + 1).toNat (n + 1).toNat % uA) uA) x := if_pos h
theorem c_remainder (ok : okS c E t ws me) {n x : Int} (hn : in32 n) (hx : in32 x) : cAns E t ws me E t ws me 115 [.int (jI n), .int (jI x)] (.long (jL (rmS E t n x))) := by
  intro w h
  have ht := ok.2.2.1
  by_cases hh : 1 ≤ n ∧ n ≤ t ∧ 0 ≤ x ∧ x ≤ 2
  · obtain ⟨w1, a1, a2, a3, a4⟩ := C_addUp h ok (n := n) (last := n) (by omega) (by omega) (by omega) (by omega)
    have tl := C_tell a2.1 a4 (by decide) (by decide)
    have p0 := Int.emod_nonneg (sT E (n + 1).toNat (n + 1).toNat) (show uA ≠ 0 by decide)
    have p1 := Int.emod_lt_of_pos (sT E (n + 1).toNat (n + 1).toNat) (show 0 < uA by decide)
    obtain ⟨e1, e2⟩ := nf_pr p0 p1
    rw [e1, e2] at tl
    have f := fw a2.1 (sT E (n + 1).toNat (n + 1).toNat / uA) (prA (sT E (n + 1).toNat (n + 1).toNat % uA) uA) (prB (sT E (n + 1).toNat (n + 1).toNat % uA) uA)
    have td := C_told (i := x) ⟨hh.2.2.1, hh.2.2.2⟩ f.2.1
    rw [rmS_in hh]
    exact ⟨_, Z_115 h.1 ⟨hn, fun q => by omega, fun _ => ⟨_, _, _, C_isLaid h ok hn, h.1, fun q => absurd (by omega) q, fun _ => ⟨_, _, _, C_isPart hx w, h.1, fun _ => ⟨_, a1, a2.1, _, tl, f.1, _, _, td, f.1, rfl⟩, fun q => absurd (by omega) q⟩⟩⟩, a2.f36 _ _ _, (a3.mono (by decide)).trans (f.2.2.mono (by decide))⟩
  · rw [rmS_no hh]
    exact ⟨w, Z_115 h.1 ⟨hn, fun _ => rfl, fun d => ⟨_, _, _, C_isLaid h ok hn, h.1, fun _ => rfl, fun e => ⟨_, _, _, C_isPart hx w, h.1, fun f => absurd (by omega) hh, fun _ => rfl⟩⟩⟩, h, xsame.rf⟩
theorem mst.same1 (h : mst E t ws me w) {w' : xW} {S : List Nat} (hs : xsame S w w') (hC : CS w') (hd : ∀ i ∈ mCells, i ∉ S := by decide) : mst E t ws me w' := h.same hs hd hC
theorem M_rows (h : mst E t ws me w) (ok : okS c E t ws me) {last : Int} (hl : last ≤ t) : (∀ k : Nat, (k : Int) ≤ last → rL w 41 (3 * k) (E k).1 ∧ rL w 41 (3 * k + 1) (E k).2.1 ∧ rL w 41 (3 * k + 2) (E k).2.2) ∧ (∀ k : Nat, (k : Int) ≤ last → 0 ≤ (E k).2.1 ∧ (E k).2.1 < (E k).2.2 ∧ (E k).2.2 ≤ 1919190 ∧ (E k).2.2 ∣ uA) := by
  have ht := ok.2.2.1
  refine ⟨fun k hk => h.nw ht (by omega), fun k hk => ?_⟩
  have a := ok.2.2.2.1 k (by omega)
  have b := a.bounds ok.1 (by omega)
  exact ⟨a.1, a.2.1, b.2.2.2.2.1, Int.dvd_trans a.2.2.1 (rB_dvd k (by omega))⟩
theorem C_maddsUp (h : mst E t ws me w) (ok : okS c E t ws me) {N last : Int} (N0 : 0 ≤ N) (N1 : N ≤ 41) (l0 : -1 ≤ last) (hl : last ≤ t) : ∃ w', xCall 190 [.ref 39, .ref 41, .int (jI N), .int (jI last)] w (none, w') ∧ mst E t ws me w' ∧ xsame [39] w w' ∧ fJ w' 39 12 8 (sT E N.toNat (last + 1).toNat / uA) ∧ fJ w' 39 12 9 (sT E N.toNat (last + 1).toNat % uA) := by
  have ht := ok.2.2.1
  have R := M_rows h ok hl
  obtain ⟨w', g1, g2, g3, g4, g5, g6⟩ := C_addsUp (a1 := 41) (by decide) N0 N1 l0 (by omega) h.1 R.1 R.2 (fun k hk => h.cb (by omega) (by omega))
  exact ⟨w', g1, h.s39 ht ok.2.2.2.2.2.1 g3 g2 (g4 _ _ (by decide) (by decide) h.top) (g4 _ _ (by decide) (by decide) h.pm) (g4 _ _ (by decide) (by decide) h.mz), g3, g5, g6⟩
theorem m_remainder (ok : okS c E t ws me) {n x : Int} (hn : in32 n) (hx : in32 x) : mAns E t ws me E t ws me 248 [.int (jI n), .int (jI x)] (.long (jL (rmS E t n x))) := by
  intro w0 h0
  have h := h0.p0 (v := jI 0)
  have hs : xsame [39] w0 (pF w0 39 0 (.int (jI 0))) := sm_pF (by decide)
  have ht := ok.2.2.1
  have ht1 := ok.2.1
  by_cases hh : 1 ≤ n ∧ n ≤ t ∧ 0 ≤ x ∧ x ≤ 2
  · obtain ⟨w1, a1, a2, a3, a4, a5⟩ := C_maddsUp h ok (N := n + 1) (last := n) (by omega) (by omega) (by omega) hh.2.1
    have p0 := Int.emod_nonneg (sT E (n + 1).toNat (n + 1).toNat) (show uA ≠ 0 by decide)
    have p1 := Int.emod_lt_of_pos (sT E (n + 1).toNat (n + 1).toNat) (show 0 < uA by decide)
    have hu : uA = 7420738134810 := rfl
    rw [rmS_in hh]
    generalize sT E (n + 1).toNat (n + 1).toNat = T at *
    have lp := C_laysProper a2.1 (n := 0) (x := T / uA) (a := T % uA) (b := uA) (kl_62 a2.1) (by decide) (by decide) (by decide) (by omega) (by omega) (by decide) (by decide)
    have lg := l3_get (n := 0) (x := T / uA) (y := prA (T % uA) uA) (z := prB (T % uA) uA) (kl_62 a2.1) (by decide) (by decide)
    have ls : xsame [62] w1 (l3 w1 62 0 (T / uA) (prA (T % uA) uA) (prB (T % uA) uA)) := l3_sm
    refine ⟨l3 w1 62 0 (T / uA) (prA (T % uA) uA) (prB (T % uA) uA), Z_248 h0.1 (fun w2 e _ => ?_), a2.same1 ls (l3_C a2.1), ((hs.trans a3).mono (by decide)).trans (ls.mono (by decide))⟩
    subst e
    refine ⟨_, _, _, C_isIn hn (a := 1) (b := 38) s32 s32 _, h.1, fun q => absurd (by omega) q, fun _ => ⟨_, _, _, C_isIn hx (a := 0) (b := 2) s32 s32 _, h.1, fun q => absurd (by omega) q, fun _ => ⟨_, h.top, hn, s32, fun _ => ⟨_, a1, a2.1, _, a4, _, a5, _, lp, l3_C a2.1, hh.2.2.1, frT (T / uA) (prA (T % uA) uA) (prB (T % uA) uA) x, ?_, rfl⟩, fun q => by omega⟩⟩⟩
    unfold frT
    by_cases x0 : x = 0
    · subst x0; exact lg.1
    · by_cases x1 : x = 1
      · subst x1; exact lg.2.1
      · have x2 : x = 2 := by omega
        subst x2; exact lg.2.2
  · rw [rmS_no hh]
    refine ⟨_, Z_248 h0.1 (fun w2 e _ => ?_), h, hs.mono (by decide)⟩
    subst e
    exact ⟨_, _, _, C_isIn hn (a := 1) (b := 38) s32 s32 _, h.1, fun _ => rfl, fun d => ⟨_, _, _, C_isIn hx (a := 0) (b := 2) s32 s32 _, h.1, fun _ => rfl, fun e => ⟨_, h.top, hn, s32, fun f => absurd (by omega) hh, fun _ => rfl⟩⟩⟩
end RM
/-! an entry of the class written -/
def updE (E : eT) (n : Nat) (e : Int × Int × Int) : eT := fun k => if k = n then e else E k
theorem updE_at {E : eT} {n : Nat} {e : Int × Int × Int} : updE E n e n = e := if_pos rfl
theorem updE_ne {E : eT} {n k : Nat} {e : Int × Int × Int} (h : k ≠ n) : updE E n e k = E k := if_neg h
def s3 (w : xW) (n : Nat) (x y z : Int) : xW := pL (pL (pL w 13 n (jL x)) 14 n (jL y)) 15 n (jL z)
theorem s3_sm {w : xW} {n : Nat} {x y z : Int} : xsame [13, 14, 15] w (s3 w n x y z) := ((sm_pL (by decide)).trans (sm_pL (by decide))).trans (sm_pL (by decide))
theorem s3_C {w : xW} (hC : CS w) {n : Nat} {x y z : Int} : CS (s3 w n x y z) := hC.putL.putL.putL
theorem s3_get {w : xW} (hC : CS w) {n : Nat} {x y z : Int} (hn : n < 39) : rL (s3 w n x y z) 13 n x ∧ rL (s3 w n x y z) 14 n y ∧ rL (s3 w n x y z) 15 n z := by
  have C1 : CS (pL w 13 n (jL x)) := hC.putL
  have C2 : CS (pL (pL w 13 n (jL x)) 14 n (jL y)) := C1.putL
  have s2 : xsame [14] (pL w 13 n (jL x)) (pL (pL w 13 n (jL x)) 14 n (jL y)) := sm_pL (by decide)
  have s3 : xsame [15] (pL (pL w 13 n (jL x)) 14 n (jL y)) (s3 w n x y z) := sm_pL (by decide)
  exact ⟨((((kl_13 hC).has (by decide) hn).put).sm s2 (by decide)).sm s3 (by decide), (((kl_14 C1).has (by decide) hn).put).sm s3 (by decide), ((kl_15 C2).has (by decide) hn).put⟩
theorem s3_ne {w : xW} {n k : Nat} {x y z a b d : Int} (hk : k ≠ n) (h1 : rL w 13 k a) (h2 : rL w 14 k b) (h3 : rL w 15 k d) : rL (s3 w n x y z) 13 k a ∧ rL (s3 w n x y z) 14 k b ∧ rL (s3 w n x y z) 15 k d := by
  have s1 : xsame [13] w (pL w 13 n (jL x)) := sm_pL (by decide)
  have s2 : xsame [14] (pL w 13 n (jL x)) (pL (pL w 13 n (jL x)) 14 n (jL y)) := sm_pL (by decide)
  have s3 : xsame [15] (pL (pL w 13 n (jL x)) 14 n (jL y)) (s3 w n x y z) := sm_pL (by decide)
  exact ⟨((h1.put hk).sm s2 (by decide)).sm s3 (by decide), ((h2.sm s1 (by decide)).put hk).sm s3 (by decide), ((h3.sm s1 (by decide)).sm s2 (by decide)).put hk⟩
theorem C_storeN {w : xW} (hC : CS w) {q : Nat} (hq : q ≠ 13 ∧ q ≠ 14 ∧ q ≠ 15) {n x y z : Int} (n0 : 0 ≤ n) (n1 : n < 39) (hf : w[q]? = some (frac x y z)) : xCall 20 [.ref 12, .int (jI n), .ref q] w (none, s3 w n.toNat x y z) := by
  have s1 : xsame [13] w (pL w 13 n.toNat (jL x)) := sm_pL (by decide)
  have s2 : xsame [14] (pL w 13 n.toNat (jL x)) (pL (pL w 13 n.toNat (jL x)) 14 n.toNat (jL y)) := sm_pL (by decide)
  have g1 := s1.get (i := q) (by simpa using hq.1) hf
  have g2 := s2.get (i := q) (by simpa using hq.2.1) g1
  refine Z_20 hC (Or.inr (Or.inl rfl)) ⟨_, _, _, C_fits s32 w, hC, fun d => absurd ⟨n0, n1⟩ d, fun _ => ⟨_, ⟨_, hf, rfl⟩, ⟨n0, n1⟩, fun w10 e10 _ => ?_⟩⟩
  subst e10
  refine ⟨_, ⟨_, g1, rfl⟩, fun w15 e15 _ => ?_⟩
  subst e15
  refine ⟨_, ⟨_, g2, rfl⟩, fun w20 e20 _ => ?_⟩
  subst e20
  rfl
section UP
variable {c : Nat} {E : eT} {t : Int} {ws : Nat → Int} {me : memT} {w : xW}
theorem cst.upd (h : cst E t ws me w) (ht : t ≤ 38) (hl : me.length ≤ 20) {E' : eT} {t' : Int} {ws' : Nat → Int} {w' : xW} (hs : xsame [0, 3, 4, 5, 6, 11, 13, 14, 15, 16, 17, 18, 19, 20, 21, 22, 36] w w') (hC : CS w') (h1 : fI w' 0 0 7 t') (hn : ∀ n : Nat, (n : Int) ≤ t' → rL w' 13 n (E' n).1 ∧ rL w' 14 n (E' n).2.1 ∧ rL w' 15 n (E' n).2.2) (hw : ∀ n : Nat, (n : Int) ≤ t' → rI w' 22 n (ws' n)) : cst E' t' ws' me w' := by
  refine cst_of hC h1 (fun n k q1 q2 => (h.cb q1 q2).sm hs (by decide)) (fun n q => ?_) hn hw (h.mz.sm hs (by decide)) (fun k q hq => ?_) ?_ ?_
  · obtain ⟨a, b, c⟩ := h.rt q
    exact ⟨a.sm hs (by decide), b.sm hs (by decide), c.sm hs (by decide)⟩
  · obtain ⟨a, b, c⟩ := h.mm hl hq
    exact ⟨a.sm hs (by decide), b.sm hs (by decide), c.sm hs (by decide)⟩
  · obtain ⟨-, -, -, -, -, -, -, ⟨fp, fw, f28, a28, b28, k28⟩, -⟩ := h
    exact ⟨fp, fw, f28, hs.get (by decide) a28, hs.get (by decide) b28, k28⟩
  · obtain ⟨-, -, -, -, -, -, -, -, ⟨s, f31, g31, hs31, a31, b31, c31, k31⟩⟩ := h
    exact ⟨s, f31, g31, hs31, hs.get (by decide) a31, hs.get (by decide) b31, hs.get (by decide) c31, k31⟩
theorem mst.upd (h : mst E t ws me w) (ht : t ≤ 38) (hl : me.length ≤ 20) {E' : eT} {t' : Int} {ws' : Nat → Int} {w' : xW} (hs : xsame [39, 41, 42, 45, 46, 48, 62] w w') (hC : CS w') (h1 : fI w' 39 12 4 t') (h2 : fI w' 39 12 7 46) (hz : fI w' 39 12 13 me.length) (hn : ∀ n : Nat, (n : Int) ≤ t' → rL w' 41 (3 * n) (E' n).1 ∧ rL w' 41 (3 * n + 1) (E' n).2.1 ∧ rL w' 41 (3 * n + 2) (E' n).2.2) (hw : ∀ n : Nat, (n : Int) ≤ t' → rI w' 42 n (ws' n)) : mst E' t' ws' me w' := by
  refine mst_of hC h1 h2 hz (fun n q => ?_) hn hw (fun n k q1 q2 => (h.cb q1 q2).sm hs (by decide)) (fun j q => (h.pr q).sm hs (by decide)) (fun k q hq => ?_) ?_
  · obtain ⟨a, b, c⟩ := h.rt q
    exact ⟨a.sm hs (by decide), b.sm hs (by decide), c.sm hs (by decide)⟩
  · obtain ⟨a, b, c⟩ := h.mm hl hq
    exact ⟨a.sm hs (by decide), b.sm hs (by decide), c.sm hs (by decide)⟩
  · obtain ⟨-, -, -, -, -, -, -, -, ⟨f53, h53, k53⟩⟩ := h
    exact ⟨f53, hs.get (by decide) h53, k53⟩
/-- one entry of the class, as it is written -/
theorem c_s3w (h : cst E t ws me w) (ht : t ≤ 38) (hl : me.length ≤ 20) {n : Nat} {x y z : Int} (hn : n < 39) : cst (updE E n (x, y, z)) t ws me (s3 w n x y z) := by
  have hs : xsame [13, 14, 15] w (s3 w n x y z) := s3_sm
  refine h.upd ht hl (hs.mono (by decide)) (s3_C h.1) (h.top.sm hs (by decide)) (fun k hk => ?_) (fun k hk => (h.wy ht hk).sm hs (by decide))
  by_cases e : k = n
  · subst e
    rw [updE_at]
    exact s3_get h.1 hn
  · rw [updE_ne e]
    obtain ⟨a, b, d⟩ := h.nw ht hk
    exact s3_ne e a b d
theorem mst.l3w (h : mst E t ws me w) (ht : t ≤ 38) (hl : me.length ≤ 20) {n : Nat} {x y z : Int} (hn : n < 39) : mst (updE E n (x, y, z)) t ws me (l3 w 41 n x y z) := by
  have hs : xsame [41] w (l3 w 41 n x y z) := l3_sm
  refine h.upd ht hl (hs.mono (by decide)) (l3_C h.1) (h.top.sm hs (by decide)) (h.pm.sm hs (by decide)) (h.mz.sm hs (by decide)) (fun k hk => ?_) (fun k hk => (h.wy ht hk).sm hs (by decide))
  by_cases e : k = n
  · subst e
    rw [updE_at]
    exact l3_get (kl_41 h.1) (by decide) (by omega)
  · rw [updE_ne e]
    obtain ⟨a, b, d⟩ := h.nw ht hk
    exact ⟨l3_ne a (by omega) (by omega) (by omega), l3_ne b (by omega) (by omega) (by omega), l3_ne d (by omega) (by omega) (by omega)⟩
end UP
