/-! the calls sum and progression -/
section P1
variable {c : Nat} {E : eT} {t : Int} {ws : Nat → Int} {me : memT} {w : xW}
def rbV (e : Int × Int × Int) : Int := (e.1 + e.2.1 * ivG e.2.2) % bG
def rxV (E : eT) (k : Nat) : Int := rbV (E k) + (if (k : Int) = 1 then 1 else 0)
theorem rxV_b (E : eT) (k : Nat) : 0 ≤ rxV E k ∧ rxV E k ≤ 1000000007 := by
  have a : 0 ≤ rbV (E k) := Int.emod_nonneg _ (by decide)
  have b : rbV (E k) < 1000000007 := Int.emod_lt_of_pos _ (by decide)
  unfold rxV
  split <;> omega
theorem C_modBig (h : cst E t ws me w) (ok : okS c E t ws me) {n : Int} (n0 : 0 ≤ n) (n24 : n ≤ 24) (nt : n ≤ t) : xCall 73 [.ref 12, .int (jI n), .long (jL 1000000007)] w (some (.long (jL (rbV (E n.toNat)))), w) := by
  have ht := ok.2.2.1
  have eb := ok_e ok n0 nt
  obtain ⟨x1, x2, y0, y1, z1⟩ := e24 ok (n := n.toNat) (by omega) (by omega)
  have ib := ivG_b (E n.toNat).2.2
  have mm := mul_b y0 (show (E n.toNat).2.1 ≤ 2730 by omega) ib.1 (show ivG (E n.toNat).2.2 ≤ 1000000007 by omega)
  have inv := C_invN (a := (E n.toNat).2.2) (m := 1000000007) (y := ivG (E n.toNat).2.2) eb.2.2.1 (by decide) (by decide) ib.1 ib.2 (ivG_1 (gd_b ok (by omega) (by omega))) w
  have ls := C_least (a := (E n.toNat).1 + (E n.toNat).2.1 * ivG (E n.toNat).2.2) (m := 1000000007) ⟨by omega, by omega⟩ s64 (by decide) w
  exact Z_73 h.1 (Or.inr (Or.inl rfl)) ⟨_, _, N_whole h ht n0 nt, h.1, _, _, N_above h ht n0 nt, h.1, _, _, N_below h ht n0 nt, h.1, _, _, inv, h.1, _, _, ls, h.1, rfl⟩
def rowB (w : xW) (E : eT) (m : Int) : Prop := ∀ k : Nat, (k : Int) ≤ m → rL w 37 k (rxV E k)
theorem L_fillBig (ok : okS c E t ws me) {m : Int} (m24 : m ≤ 24) (mt : m ≤ t) : ∀ (k i : Nat) (w : xW), (i : Int) + k = m + 1 → cst E t ws me w → rowB w E ((i : Int) - 1) →
    ∃ w', xGo 153 2 [some (.ref 0), some (.int (jI m)), some (.int (jI (i : Int)))] [] w (none, w') ∧ cst E t ws me w' ∧ xsame [37] w w' ∧ rowB w' E m := by
  intro k
  induction k with
  | zero =>
    intro i w hi h H
    refine ⟨w, Z_153_2 h.1 ⟨s32, s32, fun _ => rfl, fun q => by omega⟩, h, xsame.rf, ?_⟩
    rw [show m = (i : Int) - 1 by omega]; exact H
  | succ k ih =>
    intro i w hi h H
    have mb := C_modBig h ok (n := (i : Int)) (by omega) (by omega) (by omega)
    rw [Int.toNat_natCast] at mb
    have ex := C_extraZ (n := (i : Int)) s32 w
    have sm : xsame [37] w (pL w 37 i (jL (rxV E i))) := sm_pL (by decide)
    have h2 : cst E t ws me (pL w 37 i (jL (rxV E i))) := h.same sm (by decide) h.1.putL
    obtain ⟨w', q1, q2, q3, q4⟩ := ih (i + 1) _ (by omega) h2 (fun j hj => by
      by_cases z : j = i
      · rw [z]; exact ((kl_37 h.1).has (by decide) (by omega)).put
      · exact (H j (by omega)).put z)
    refine ⟨w', Z_153_2 h.1 ⟨s32, s32, fun q => by omega, fun _ => ⟨fun q => by omega, fun _ => ⟨_, _, mb, h.1, _, _, ex, h.1, by split <;> exact s32, ⟨by omega, by omega⟩, fun w14 e14 _ => ?_⟩⟩⟩, q2, sm.trans q3, q4⟩
    rw [e14]; exact q1
theorem C_fillBig (h : cst E t ws me w) (ok : okS c E t ws me) {m : Int} (m0 : 0 ≤ m) (m24 : m ≤ 24) (mt : m ≤ t) : ∃ w', xCall 153 [.ref 0, .int (jI m)] w (none, w') ∧ cst E t ws me w' ∧ xsame [37] w w' ∧ rowB w' E m := by
  obtain ⟨w', q1, q2, q3, q4⟩ := L_fillBig ok m24 mt (m + 1).toNat 0 w (by omega) h (fun j hj => by omega)
  exact ⟨w', Z_153 h.1 q1, q2, q3, q4⟩
theorem rx_cg (ok : okS c E t ws me) {e : Nat} (e24' : e ≤ 24) (et : (e : Int) ≤ t) : cg bG (rxV E e) (coA E e * ivG (E e).2.2) := by
  have i := ivG_1 (gd_b ok e24' et)
  have m : cg bG (rbV (E e)) ((E e).1 + (E e).2.1 * ivG (E e).2.2) := cg.mod
  have s : coA E e * ivG (E e).2.2 = ((E e).1 + (if (e : Int) = 1 then 1 else 0)) * (ivG (E e).2.2 * (E e).2.2) + (E e).2.1 * ivG (E e).2.2 := by
    unfold coA enV
    by_cases q : e = 1
    · rw [if_pos q, if_pos (by omega), Int.add_mul, Int.add_mul, Int.add_mul, Int.one_mul, Int.mul_comm (ivG _), Int.mul_assoc]
      omega
    · rw [if_neg q, if_neg (by omega), Int.add_zero, Int.add_zero, Int.add_mul, Int.mul_comm (ivG _), Int.mul_assoc]
  rw [s]
  unfold rxV
  have k := (cg.mul (cg.rf (m := bG) (x := (E e).1 + (if (e : Int) = 1 then 1 else 0))) i).add (cg.rf (m := bG) (x := (E e).2.1 * ivG (E e).2.2))
  rw [Int.mul_one] at k
  refine (m.add cg.rf).tr (cg.tr (cg_eq ?_) k.sm)
  omega
theorem L_bigPoly (h : cst E t ws me w) (ok : okS c E t ws me) {m : Nat} {n : Int} {M : Int} (m24 : m ≤ 24) (mt : (m : Int) ≤ t) (n0 : 0 ≤ n) (n1 : n ≤ 1000000000) (mM : (m : Int) ≤ M) (H : rowB w E M) : ∀ (j : Nat) (T : Int), j ≤ m + 1 → 0 ≤ T → T < 1000000007 → cg bG T (evP (tcB E m) n (m + 1 - j) (j + 1)) →
    xGo 154 23 [some (.ref 0), some (.int (jI (m : Int))), some (.long (jL n)), none, some (.long (jL T)), none, some (.int (jI (j : Int))), none, none] [] w (some (.long (jL (smV E m n))), w) := by
  intro j
  induction j with
  | zero =>
    intro T hj T0 T1 hT
    have s := smV_b E m n
    have ib := ivG_b ((m : Int) + 1)
    have tn := mul_b T0 (show T ≤ 1000000007 by omega) n0 n1
    have y0 := Int.emod_nonneg (T * n) (show (1000000007 : Int) ≠ 0 by decide)
    have y1 := Int.emod_lt_of_pos (T * n) (show (0 : Int) < 1000000007 by decide)
    have zz := mul_b y0 (Int.le_of_lt y1) ib.1 (show ivG ((m : Int) + 1) ≤ 1000000007 by omega)
    have inv := C_invN (a := (m : Int) + 1) (m := 1000000007) (y := ivG ((m : Int) + 1)) s64 (by decide) (by decide) ib.1 ib.2 (ivG_1 (gd_m m24)) w
    have e : T * n % 1000000007 * ivG ((m : Int) + 1) % 1000000007 = smV E m n := by
      refine cg.lt (m := bG) ?_ (Int.emod_nonneg _ (by decide)) (Int.emod_lt_of_pos _ (by decide)) s.1 s.2
      refine cg.mod.tr ((cg.mod.mul cg.rf).tr (cg.tr ?_ cg.mod.sm))
      refine cg.mul ?_ cg.rf
      show cg bG (T * n) (tcB E m 0 + n * evP (tcB E m) n (m + 1) 1)
      rw [show tcB E m 0 = 0 from if_pos rfl, Int.zero_add, Int.mul_comm n]
      exact hT.mul cg.rf
    rw [← e]
    exact Z_154_23 h.1 ⟨s32, fun _ => ⟨⟨by omega, by omega⟩, _, tmN tn.1, s32, _, _, inv, h.1, ⟨by omega, by omega⟩, _, tmN zz.1, rfl⟩, fun q => by omega⟩
  | succ j ih =>
    intro T hj T0 T1 hT
    have cc := cb25 (m := m) (j := j + 1) m24
    have o := C_of h (n := (m : Int) + 1) (k := ((j + 1 : Nat) : Int)) (by omega) (by omega) (by omega) (by omega)
    rw [show ((m : Int) + 1).toNat = m + 1 by omega, Int.toNat_natCast] at o
    have rw' := H (m - j) (by omega)
    have rb := rxV_b E (m - j)
    have cr := mul_b (a := ((cb (m + 1) (j + 1) : Nat) : Int)) (A := 33554432) (b := rxV E (m - j)) (B := 1000000007) (by omega) (by omega) rb.1 rb.2
    have tn := mul_b T0 (show T ≤ 1000000007 by omega) n0 n1
    have u0 := Int.emod_nonneg (((cb (m + 1) (j + 1) : Nat) : Int) * rxV E (m - j)) (show (1000000007 : Int) ≠ 0 by decide)
    have u1 := Int.emod_lt_of_pos (((cb (m + 1) (j + 1) : Nat) : Int) * rxV E (m - j)) (show (0 : Int) < 1000000007 by decide)
    have step : cg bG ((T * n + ((cb (m + 1) (j + 1) : Nat) : Int) * rxV E (m - j) % 1000000007) % 1000000007) (evP (tcB E m) n (m + 1 - j) (j + 1)) := by
      rw [show m + 1 - j = (m + 1 - (j + 1)) + 1 by omega]
      show cg bG _ (tcB E m (j + 1) + n * evP (tcB E m) n (m + 1 - (j + 1)) (j + 1 + 1))
      rw [Int.add_comm (tcB E m (j + 1)), Int.mul_comm n]
      refine cg.mod.tr ((hT.mul cg.rf).add (cg.mod.tr ?_))
      rw [show tcB E m (j + 1) = (cb (m + 1) (j + 1) : Nat) * (coA E (m + 1 - (j + 1)) * ivG (E (m + 1 - (j + 1))).2.2) from if_neg (by omega), show m + 1 - (j + 1) = m - j by omega]
      exact cg.rf.mul (rx_cg ok (by omega) (by omega))
    have g := ih _ (by omega) (Int.emod_nonneg _ (by decide)) (Int.emod_lt_of_pos _ (by decide)) step
    rw [show m - j = ((m : Int) + 1 - ((j + 1 : Nat) : Int)).toNat by omega] at rw' g cr u0 u1
    rw [show (j : Int) = ((j + 1 : Nat) : Int) - 1 by omega] at g
    exact Z_154_23 h.1 ⟨s32, fun q => by omega, fun _ => ⟨_, _, o, h.1, by omega, _, rw', ⟨by omega, by omega⟩, _, tmN cr.1, ⟨by omega, by omega⟩, _, tmN (by omega), g⟩⟩
theorem C_bigPoly (h : cst E t ws me w) (ok : okS c E t ws me) {m : Nat} {n : Int} {M : Int} (m24 : m ≤ 24) (mt : (m : Int) ≤ t) (n0 : 0 ≤ n) (n1 : n ≤ 1000000000) (mM : (m : Int) ≤ M) (H : rowB w E M) : xCall 154 [.ref 0, .int (jI (m : Int)), .long (jL n)] w (some (.long (jL (smV E m n))), w) := by
  have g := L_bigPoly h ok m24 mt n0 n1 mM H (m + 1) 0 (by omega) (by decide) (by decide) (by rw [Nat.sub_self]; exact cg.rf)
  exact Z_154 h.1 ⟨s32, fun q => by omega, fun _ => ⟨fun _ => g, fun q => by omega⟩⟩
/-! sum -/
def suV (E : eT) (t m n : Int) : Int := if 0 ≤ m ∧ m ≤ 24 ∧ 0 ≤ n ∧ n ≤ 1000000000 then (if m ≤ t then smV E m.toNat n else -2) else -1
theorem c_sum (ok : okS c E t ws me) {m n : Int} (hm : in32 m) (hn : in32 n) : cAns E t ws me E t ws me 151 [.int (jI m), .int (jI n)] (.int (jI (suV E t m n))) := by
  intro w h
  have ht1 := ok.2.1
  have ht := ok.2.2.1
  by_cases v : 0 ≤ m ∧ m ≤ 24 ∧ 0 ≤ n ∧ n ≤ 1000000000
  · by_cases mt : m ≤ t
    · obtain ⟨w1, a1, a2, a3, a4⟩ := C_fillBig h ok (m := m) v.1 v.2.1 mt
      have bp := C_bigPoly a2 ok (m := m.toNat) (n := n) (M := m) (by omega) (by omega) v.2.2.1 v.2.2.2 (by omega) a4
      rw [Int.toNat_of_nonneg v.1] at bp
      rw [show suV E t m n = smV E m.toNat n by unfold suV; rw [if_pos v, if_pos mt]]
      exact ⟨w1, Z_151 h.1 ⟨_, _, _, C_isSum hm hn w, h.1, fun _ => ⟨_, h.top, hm, s32, fun _ => ⟨_, a1, a2.1, hn, _, _, bp, a2.1, rfl⟩, fun q => by omega⟩, fun q => absurd v q⟩, a2, a3.mono (by decide)⟩
    · rw [show suV E t m n = -2 by unfold suV; rw [if_pos v, if_neg mt]]
      exact ⟨w, Z_151 h.1 ⟨_, _, _, C_isSum hm hn w, h.1, fun _ => ⟨_, h.top, hm, s32, fun q => by omega, fun _ => rfl⟩, fun q => absurd v q⟩, h, xsame.rf⟩
  · rw [show suV E t m n = -1 from if_neg v]
    exact ⟨w, Z_151 h.1 ⟨_, _, _, C_isSum hm hn w, h.1, fun q => absurd q v, fun _ => rfl⟩, h, xsame.rf⟩
theorem m_sum (ok : okS c E t ws me) {m n : Int} (hm : in32 m) (hn : in32 n) : mAns E t ws me E t ws me 274 [.int (jI m), .int (jI n)] (.int (jI (suV E t m n))) := by
  intro w h0
  have h := h0.p0 (v := jI 0)
  have s0 : xsame mAll w (pF w 39 0 (.int (jI 0))) := sm_pF (by decide)
  have ht1 := ok.2.1
  have ht := ok.2.2.1
  by_cases v : 0 ≤ m ∧ m ≤ 24 ∧ 0 ≤ n ∧ n ≤ 1000000000
  · by_cases mt : m ≤ t
    · obtain ⟨w1, a1, a2, a3⟩ := C_sumAt h ok (m := m.toNat) (n := n) (by omega) (by omega) v.2.2.1 v.2.2.2
      rw [Int.toNat_of_nonneg v.1] at a1
      rw [show suV E t m n = smV E m.toNat n by unfold suV; rw [if_pos v, if_pos mt]]
      refine ⟨w1, Z_274 h0.1 (fun w3 e _ => ?_), a2, s0.trans (a3.mono (by decide))⟩
      subst e
      exact ⟨_, _, _, C_isIn hm s32 s32 _, h.1, fun q => absurd ⟨v.1, v.2.1⟩ q, fun _ => ⟨_, _, _, C_isIn hn s32 s32 _, h.1, fun _ => ⟨_, h.top, hm, s32, fun _ => ⟨_, _, a1, a2.1, rfl⟩, fun q => by omega⟩, fun q => absurd v.2.2 q⟩⟩
    · rw [show suV E t m n = -2 by unfold suV; rw [if_pos v, if_neg mt]]
      refine ⟨_, Z_274 h0.1 (fun w3 e _ => ?_), h, s0⟩
      subst e
      exact ⟨_, _, _, C_isIn hm s32 s32 _, h.1, fun q => absurd ⟨v.1, v.2.1⟩ q, fun _ => ⟨_, _, _, C_isIn hn s32 s32 _, h.1, fun _ => ⟨_, h.top, hm, s32, fun q => by omega, fun _ => rfl⟩, fun q => absurd v.2.2 q⟩⟩
  · rw [show suV E t m n = -1 from if_neg v]
    refine ⟨_, Z_274 h0.1 (fun w3 e _ => ?_), h, s0⟩
    subst e
    exact ⟨_, _, _, C_isIn hm s32 s32 _, h.1, fun _ => rfl, fun q1 => ⟨_, _, _, C_isIn hn s32 s32 _, h.1, fun q2 => absurd ⟨q1.1, q1.2, q2⟩ v, fun _ => rfl⟩⟩
/-! progression -/
def pgC (m a d j : Nat) : Int := (cb m j : Nat) * ((a ^ (m - j) % 1000000007 : Nat) : Int) % 1000000007 * ((d ^ j % 1000000007 : Nat) : Int) % 1000000007
def pgF (E : eT) (m a d : Nat) (n : Int) : Nat → Int
  | 0 => ((a ^ m % 1000000007 : Nat) : Int) * n % 1000000007
  | j + 1 => (pgF E m a d n j + pgC m a d (j + 1) * smV E (j + 1) (n - 1)) % 1000000007
theorem pgF_b (E : eT) (m a d : Nat) (n : Int) : ∀ j : Nat, 0 ≤ pgF E m a d n j ∧ pgF E m a d n j < 1000000007
  | 0 => ⟨Int.emod_nonneg _ (by decide), Int.emod_lt_of_pos _ (by decide)⟩
  | j + 1 => ⟨Int.emod_nonneg _ (by decide), Int.emod_lt_of_pos _ (by decide)⟩
theorem nm_b (x : Nat) : 0 ≤ ((x % 1000000007 : Nat) : Int) ∧ ((x % 1000000007 : Nat) : Int) ≤ 1000000007 := by
  have := Nat.mod_lt x (show 0 < 1000000007 by decide)
  omega
theorem pgC_b (m a d j : Nat) (hm : m ≤ 24) : (0 ≤ (cb m j : Nat) * ((a ^ (m - j) % 1000000007 : Nat) : Int) ∧ (cb m j : Nat) * ((a ^ (m - j) % 1000000007 : Nat) : Int) ≤ 33554432 * 1000000007) ∧ (0 ≤ (cb m j : Nat) * ((a ^ (m - j) % 1000000007 : Nat) : Int) % 1000000007 * ((d ^ j % 1000000007 : Nat) : Int) ∧ (cb m j : Nat) * ((a ^ (m - j) % 1000000007 : Nat) : Int) % 1000000007 * ((d ^ j % 1000000007 : Nat) : Int) ≤ 1000000007 * 1000000007) ∧ 0 ≤ pgC m a d j ∧ pgC m a d j ≤ 1000000007 := by
  have cl : cb m j ≤ 33554432 := by
    have a := cb_le m j
    have b : 2 ^ m ≤ 2 ^ 25 := Nat.pow_le_pow_right (by decide) (by omega)
    have : (2 : Nat) ^ 25 = 33554432 := by decide
    omega
  have x := nm_b (a ^ (m - j))
  have y := nm_b (d ^ j)
  have p := mul_b (a := ((cb m j : Nat) : Int)) (A := 33554432) (by omega) (by omega) x.1 x.2
  have q0 := Int.emod_nonneg ((cb m j : Nat) * ((a ^ (m - j) % 1000000007 : Nat) : Int)) (show (1000000007 : Int) ≠ 0 by decide)
  have q1 := Int.emod_lt_of_pos ((cb m j : Nat) * ((a ^ (m - j) % 1000000007 : Nat) : Int)) (show (0 : Int) < 1000000007 by decide)
  exact ⟨p, mul_b q0 (Int.le_of_lt q1) y.1 y.2, Int.emod_nonneg _ (by decide), Int.le_of_lt (Int.emod_lt_of_pos _ (by decide))⟩
abbrev pgP (m a d n : Int) : Prop := (0 ≤ m ∧ m ≤ 24 ∧ 0 ≤ n ∧ n ≤ 1000000000) ∧ (0 ≤ a ∧ a ≤ 1000) ∧ (1 ≤ d ∧ d ≤ 1000)
def pgS (E : eT) (t m a d n : Int) : Int := if pgP m a d n then (if m ≤ t then (if n = 0 then 0 else pgF E m.toNat a.toNat d.toNat n m.toNat) else -2) else -1
theorem L_prog (h : cst E t ws me w) (ok : okS c E t ws me) {m a d : Nat} {n : Int} (m24 : m ≤ 24) (mt : (m : Int) ≤ t) (a1 : a ≤ 1000) (d1 : d ≤ 1000) (n0 : 1 ≤ n) (n1 : n ≤ 1000000000) (H : rowB w E (m : Int)) : ∀ (k j : Nat), j + k = m →
    xGo 165 79 [some (.ref 0), some (.int (jI (m : Int))), some (.int (jI (a : Int))), some (.int (jI (d : Int))), some (.int (jI n)), some (.long (jL (pgF E m a d n j))), none, some (.int (jI ((j : Int) + 1))), none, none] [] w (some (.int (jI (pgF E m a d n m))), w) := by
  intro k
  induction k with
  | zero =>
    intro j hj
    have e : j = m := by omega
    subst e
    exact Z_165_79 h.1 ⟨s32, s32, fun _ => rfl, fun q => by omega⟩
  | succ k ih =>
    intro j hj
    have o := C_of h (n := (m : Int)) (k := (j : Int) + 1) (by omega) (by omega) (by omega) (by omega)
    rw [Int.toNat_natCast, show ((j : Int) + 1).toNat = j + 1 by omega] at o
    have p1 := C_powerN (a := a) (n := m - (j + 1)) (M := 1000000007) (by omega) (by omega) (by decide) (by decide) w
    rw [show ((m - (j + 1) : Nat) : Int) = (m : Int) - ((j : Int) + 1) by omega] at p1
    have p2 := C_powerN (a := d) (n := j + 1) (M := 1000000007) (by omega) (by omega) (by decide) (by decide) w
    have bp := C_bigPoly h ok (m := j + 1) (n := n - 1) (M := (m : Int)) (by omega) (by omega) (by omega) (by omega) (by omega) H
    have b := pgC_b m a d (j + 1) m24
    have fb := pgF_b E m a d n j
    have sb := smV_b E (j + 1) (n - 1)
    have mm := mul_b b.2.2.1 b.2.2.2 sb.1 (Int.le_of_lt sb.2)
    have g := ih (j + 1) (by omega)
    have e : pgF E m a d n (j + 1) = (pgF E m a d n j + pgC m a d (j + 1) * smV E (j + 1) (n - 1)) % 1000000007 := rfl
    rw [e] at g
    exact Z_165_79 h.1 ⟨s32, s32, fun q => by omega, fun _ => ⟨_, _, o, h.1, s32, _, _, p1, h.1, ⟨by omega, by omega⟩, _, tmN b.1.1, s32, _, _, p2, h.1, ⟨by omega, by omega⟩, _, tmN b.2.1.1, s32, _, _, bp, h.1, show in64 (pgF E m a d n j + pgC m a d (j + 1) * smV E (j + 1) (n - 1)) from ⟨by omega, by omega⟩, _, tmN (show 0 ≤ pgF E m a d n j + pgC m a d (j + 1) * smV E (j + 1) (n - 1) by omega), g⟩⟩
theorem c_progression (ok : okS c E t ws me) {m a d n : Int} (hm : in32 m) (ha : in32 a) (hd : in32 d) (hn : in32 n) : cAns E t ws me E t ws me 165 [.int (jI m), .int (jI a), .int (jI d), .int (jI n)] (.int (jI (pgS E t m a d n))) := by
  intro w h
  have ht1 := ok.2.1
  have ht := ok.2.2.1
  by_cases v : pgP m a d n
  · have v1 := v.1
    have v2 := v.2.1
    have v3 := v.2.2
    by_cases mt : m ≤ t
    · by_cases n0 : n = 0
      · rw [show pgS E t m a d n = 0 by unfold pgS; rw [if_pos v, if_pos mt, if_pos n0]]
        exact ⟨w, Z_165 h.1 ⟨_, _, _, C_isSum hm hn w, h.1, fun q => absurd v.1 q, fun _ => ⟨ha, fun q => by omega, fun _ => ⟨fun q => by omega, fun _ => ⟨hd, fun q => by omega, fun _ => ⟨fun _ => ⟨_, h.top, hm, s32, fun _ => ⟨hn, fun q => absurd n0 q, fun _ => rfl⟩, fun q => by omega⟩, fun q => by omega⟩⟩⟩⟩⟩, h, xsame.rf⟩
      · rw [show pgS E t m a d n = pgF E m.toNat a.toNat d.toNat n m.toNat by unfold pgS; rw [if_pos v, if_pos mt, if_neg n0]]
        obtain ⟨w1, a1, a2, a3, a4⟩ := C_fillBig h ok (m := m) v1.1 v1.2.1 mt
        have p1 := C_powerN (a := a.toNat) (n := m.toNat) (M := 1000000007) (by omega) (by omega) (by decide) (by decide) w1
        have em : ((m.toNat : Nat) : Int) = m := Int.toNat_of_nonneg v1.1
        have ea : ((a.toNat : Nat) : Int) = a := Int.toNat_of_nonneg v2.1
        have ed : ((d.toNat : Nat) : Int) = d := Int.toNat_of_nonneg (by omega)
        have x := nm_b (a.toNat ^ m.toNat)
        have mm := mul_b x.1 x.2 v1.2.2.1 v1.2.2.2
        have l := L_prog a2 ok (m := m.toNat) (a := a.toNat) (d := d.toNat) (n := n) (by omega) (by omega) (by omega) (by omega) (by omega) v1.2.2.2 (by rw [em]; exact a4) m.toNat 0 (by omega)
        rw [em, ea, ed] at l
        rw [em, ea] at p1
        exact ⟨w1, Z_165 h.1 ⟨_, _, _, C_isSum hm hn w, h.1, fun q => absurd v.1 q, fun _ => ⟨ha, fun q => by omega, fun _ => ⟨fun q => by omega, fun _ => ⟨hd, fun q => by omega, fun _ => ⟨fun _ => ⟨_, h.top, hm, s32, fun _ => ⟨hn, fun _ => ⟨_, a1, a2.1, _, _, p1, a2.1, ⟨by omega, by omega⟩, _, tmN mm.1, l⟩, fun q => absurd q n0⟩, fun q => by omega⟩, fun q => by omega⟩⟩⟩⟩⟩, a2, a3.mono (by decide)⟩
    · rw [show pgS E t m a d n = -2 by unfold pgS; rw [if_pos v, if_neg mt]]
      exact ⟨w, Z_165 h.1 ⟨_, _, _, C_isSum hm hn w, h.1, fun q => absurd v.1 q, fun _ => ⟨ha, fun q => by omega, fun _ => ⟨fun q => by omega, fun _ => ⟨hd, fun q => by omega, fun _ => ⟨fun _ => ⟨_, h.top, hm, s32, fun q => by omega, fun _ => rfl⟩, fun q => by omega⟩⟩⟩⟩⟩, h, xsame.rf⟩
  · rw [show pgS E t m a d n = -1 from if_neg v]
    exact ⟨w, Z_165 h.1 ⟨_, _, _, C_isSum hm hn w, h.1, fun _ => rfl, fun q1 => ⟨ha, fun _ => rfl, fun q2 => ⟨fun _ => rfl, fun q3 => ⟨hd, fun _ => rfl, fun q4 => ⟨fun q5 => absurd ⟨q1, ⟨q2, q3⟩, q4, q5⟩ v, fun _ => rfl⟩⟩⟩⟩⟩, h, xsame.rf⟩
theorem L_mprog (ok : okS c E t ws me) {m a d : Nat} {n : Int} (m24 : m ≤ 24) (mt : (m : Int) ≤ t) (a1 : a ≤ 1000) (d1 : d ≤ 1000) (n0 : 1 ≤ n) (n1 : n ≤ 1000000000) : ∀ (k j : Nat) (w : xW), j + k = m → mst E t ws me w →
    ∃ w', xGo 278 91 [some (.ref 39), some (.int (jI (m : Int))), some (.int (jI (a : Int))), some (.int (jI (d : Int))), some (.int (jI n)), some (.long (jL (pgF E m a d n j))), none, some (.int (jI ((j : Int) + 1)))] [] w (some (.int (jI (pgF E m a d n m))), w') ∧ mst E t ws me w' ∧ xsame [54, 55] w w' := by
  intro k
  induction k with
  | zero =>
    intro j w hj h
    have e : j = m := by omega
    subst e
    exact ⟨w, Z_278_91 h.1 ⟨s32, s32, fun _ => rfl, fun q => by omega⟩, h, xsame.rf⟩
  | succ k ih =>
    intro j w hj h
    have rc := h.cb (n := m) (k := j + 1) (by omega) (by omega)
    rw [show 40 * m + (j + 1) = (40 * (m : Int) + ((j : Int) + 1)).toNat by omega] at rc
    have p1 := C_bigPower (a := a) (n := m - (j + 1)) (M := 1000000007) (by omega) (by omega) (by decide) (by decide) w
    rw [show ((m - (j + 1) : Nat) : Int) = (m : Int) - ((j : Int) + 1) by omega] at p1
    have p2 := C_bigPower (a := d) (n := j + 1) (M := 1000000007) (by omega) (by omega) (by decide) (by decide) w
    obtain ⟨w1, s1, s2, s3⟩ := C_sumAt h ok (m := j + 1) (n := n - 1) (by omega) (by omega) (by omega) (by omega)
    have b := pgC_b m a d (j + 1) m24
    have fb := pgF_b E m a d n j
    have sb := smV_b E (j + 1) (n - 1)
    have mm := mul_b b.2.2.1 b.2.2.2 sb.1 (Int.le_of_lt sb.2)
    obtain ⟨w2, g1, g2, g3⟩ := ih (j + 1) w1 (by omega) s2
    have e : pgF E m a d n (j + 1) = (pgF E m a d n j + pgC m a d (j + 1) * smV E (j + 1) (n - 1)) % 1000000007 := rfl
    rw [e] at g1
    exact ⟨w2, Z_278_91 h.1 ⟨s32, s32, fun q => by omega, fun _ => ⟨by omega, _, rc, s32, _, _, p1, h.1, ⟨by omega, by omega⟩, _, tmN b.1.1, s32, _, _, p2, h.1, ⟨by omega, by omega⟩, _, tmN b.2.1.1, _, _, s1, s2.1, show in64 (pgF E m a d n j + pgC m a d (j + 1) * smV E (j + 1) (n - 1)) from ⟨by omega, by omega⟩, _, tmN (show 0 ≤ pgF E m a d n j + pgC m a d (j + 1) * smV E (j + 1) (n - 1) by omega), g1⟩⟩, g2, s3.trans g3⟩
theorem m_progression (ok : okS c E t ws me) {m a d n : Int} (hm : in32 m) (ha : in32 a) (hd : in32 d) (hn : in32 n) : mAns E t ws me E t ws me 278 [.int (jI m), .int (jI a), .int (jI d), .int (jI n)] (.int (jI (pgS E t m a d n))) := by
  intro w h0
  have h := h0.p0 (v := jI 0)
  have s0 : xsame mAll w (pF w 39 0 (.int (jI 0))) := sm_pF (by decide)
  have ht1 := ok.2.1
  have ht := ok.2.2.1
  by_cases v : pgP m a d n
  · have v1 := v.1
    have v2 := v.2.1
    have v3 := v.2.2
    by_cases mt : m ≤ t
    · by_cases n0 : n = 0
      · rw [show pgS E t m a d n = 0 by unfold pgS; rw [if_pos v, if_pos mt, if_pos n0]]
        refine ⟨_, Z_278 h0.1 (fun w3 e _ => ?_), h, s0⟩
        subst e
        exact ⟨_, _, _, C_isIn hm s32 s32 _, h.1, fun q => absurd ⟨v1.1, v1.2.1⟩ q, fun _ => ⟨_, _, _, C_isIn ha s32 s32 _, h.1, fun q => absurd v2 q, fun _ => ⟨_, _, _, C_isIn hd s32 s32 _, h.1, fun q => absurd v3 q, fun _ => ⟨_, _, _, C_isIn hn s32 s32 _, h.1, fun _ => ⟨_, h.top, hm, s32, fun _ => ⟨hn, fun q => absurd n0 q, fun _ => rfl⟩, fun q => by omega⟩, fun q => absurd v1.2.2 q⟩⟩⟩⟩
      · rw [show pgS E t m a d n = pgF E m.toNat a.toNat d.toNat n m.toNat by unfold pgS; rw [if_pos v, if_pos mt, if_neg n0]]
        have em : ((m.toNat : Nat) : Int) = m := Int.toNat_of_nonneg v1.1
        have ea : ((a.toNat : Nat) : Int) = a := Int.toNat_of_nonneg v2.1
        have ed : ((d.toNat : Nat) : Int) = d := Int.toNat_of_nonneg (by omega)
        have p1 := C_bigPower (a := a.toNat) (n := m.toNat) (M := 1000000007) (by omega) (by omega) (by decide) (by decide) (pF w 39 0 (.int (jI 0)))
        have x := nm_b (a.toNat ^ m.toNat)
        have mm := mul_b x.1 x.2 v1.2.2.1 v1.2.2.2
        obtain ⟨w2, g1, g2, g3⟩ := L_mprog ok (m := m.toNat) (a := a.toNat) (d := d.toNat) (n := n) (by omega) (by omega) (by omega) (by omega) (by omega) v1.2.2.2 m.toNat 0 _ (by omega) h
        rw [em, ea, ed] at g1
        rw [em, ea] at p1
        refine ⟨w2, Z_278 h0.1 (fun w3 e _ => ?_), g2, s0.trans (g3.mono (by decide))⟩
        subst e
        exact ⟨_, _, _, C_isIn hm s32 s32 _, h.1, fun q => absurd ⟨v1.1, v1.2.1⟩ q, fun _ => ⟨_, _, _, C_isIn ha s32 s32 _, h.1, fun q => absurd v2 q, fun _ => ⟨_, _, _, C_isIn hd s32 s32 _, h.1, fun q => absurd v3 q, fun _ => ⟨_, _, _, C_isIn hn s32 s32 _, h.1, fun _ => ⟨_, h.top, hm, s32, fun _ => ⟨hn, fun _ => ⟨ha, _, _, p1, h.1, ⟨by omega, by omega⟩, _, tmN mm.1, g1⟩, fun q => absurd q n0⟩, fun q => by omega⟩, fun q => absurd v1.2.2 q⟩⟩⟩⟩
    · rw [show pgS E t m a d n = -2 by unfold pgS; rw [if_pos v, if_neg mt]]
      refine ⟨_, Z_278 h0.1 (fun w3 e _ => ?_), h, s0⟩
      subst e
      exact ⟨_, _, _, C_isIn hm s32 s32 _, h.1, fun q => absurd ⟨v1.1, v1.2.1⟩ q, fun _ => ⟨_, _, _, C_isIn ha s32 s32 _, h.1, fun q => absurd v2 q, fun _ => ⟨_, _, _, C_isIn hd s32 s32 _, h.1, fun q => absurd v3 q, fun _ => ⟨_, _, _, C_isIn hn s32 s32 _, h.1, fun _ => ⟨_, h.top, hm, s32, fun q => by omega, fun _ => rfl⟩, fun q => absurd v1.2.2 q⟩⟩⟩⟩
  · rw [show pgS E t m a d n = -1 from if_neg v]
    refine ⟨_, Z_278 h0.1 (fun w3 e _ => ?_), h, s0⟩
    subst e
    exact ⟨_, _, _, C_isIn hm s32 s32 _, h.1, fun _ => rfl, fun q1 => ⟨_, _, _, C_isIn ha s32 s32 _, h.1, fun _ => rfl, fun q2 => ⟨_, _, _, C_isIn hd s32 s32 _, h.1, fun _ => rfl, fun q3 => ⟨_, _, _, C_isIn hn s32 s32 _, h.1, fun q4 => absurd ⟨⟨q1.1, q1.2, q4⟩, q2, q3⟩ v, fun _ => rfl⟩⟩⟩⟩
end P1
