/-! growth, whichBelow, voronoi, classNumber, harmonic -/
def absI (a : Int) : Int := if 0 ≤ a then a else -a
theorem absI_in {a : Int} (h1 : -9000000000000000000 ≤ a) (h2 : a ≤ 9000000000000000000) : in64 (absI a) ∧ 0 ≤ absI a := by
  unfold absI
  split
  · exact ⟨s64, by omega⟩
  · exact ⟨s64, by omega⟩
theorem C_absZ {a : Int} (ha : in64 a) (w : xW) : xCall 183 [.long (jL a)] w (some (.long (jL (absI a))), w) := C_absL ha w
theorem C_msizeZ {a : Int} (ha : in64 a) (w : xW) : xCall 304 [.long (jL a)] w (some (.long (jL (absI a))), w) := C_msize ha w
theorem s32n {x : Nat} (h : x ≤ 2147483647) : in32 (x : Int) := ⟨by omega, by omega⟩
theorem s64n {x : Nat} (h : x ≤ 9223372036854775807) : in64 (x : Int) := ⟨by omega, by omega⟩
section A4
variable {c : Nat} {E : eT} {t : Int} {ws : Nat → Int} {me : memT}
theorem ok_e (ok : okS c E t ws me) {n : Int} (h0 : 0 ≤ n) (hn : n ≤ t) : in64 (E n.toNat).1 ∧ in64 (E n.toNat).2.1 ∧ in64 (E n.toNat).2.2 ∧ 0 < (E n.toNat).2.2 ∧ (E n.toNat).2.2 ≤ 1919190 ∧ -500000000010000 ≤ (E n.toNat).1 ∧ (E n.toNat).1 ≤ 500000000010000 := by
  obtain ⟨hc, ht1, ht2, hok, -⟩ := ok
  exact (hok n.toNat (by omega)).bounds hc (by omega)
def grS (E : eT) (t n : Int) : Int := if 4 ≤ n ∧ n ≤ 38 ∧ n % 2 = 0 then (if n ≤ t then (if absI (E (n - 2).toNat).1 = 0 then 0 else absI (E n.toNat).1 / absI (E (n - 2).toNat).1) else -2) else -1
theorem c_growth (ok : okS c E t ws me) {n : Int} (hn : in32 n) : cAns E t ws me E t ws me 182 [.int (jI n)] (.int (jI (grS E t n))) := by
  intro w h
  have ht1 := ok.2.1
  have ht2 := ok.2.2.1
  refine ⟨w, Z_182 h.1 ⟨hn, fun c => ?_, fun c => ⟨fun d => ?_, fun d => ⟨_, tmN (by omega), s32, fun e => ⟨_, h.top, s32, fun g => ?_, fun g => ?_⟩, fun e => ?_⟩⟩⟩, h, xsame.rf⟩
  · unfold grS; rw [if_neg (by omega)]
  · unfold grS; rw [if_neg (by omega)]
  · have b := ok_e ok (n := n - 2) (by omega) (by omega)
    have b' := ok_e ok (n := n) (by omega) (by omega)
    have a1 := absI_in (a := (E (n - 2).toNat).1) (by omega) (by omega)
    have a2 := absI_in (a := (E n.toNat).1) (by omega) (by omega)
    refine ⟨_, _, N_whole h ht2 (by omega) (by omega), h.1, _, _, C_absZ b.1 w, h.1, a1.1, fun x => ⟨_, _, N_whole h ht2 (by omega) (by omega), h.1, _, _, C_absZ b'.1 w, h.1, a2.1, x, _, tdN a2.2, ?_⟩, fun x => ?_⟩
    · unfold grS; rw [if_pos (by omega), if_pos g, if_neg x]
    · unfold grS; rw [if_pos (by omega), if_pos g, if_pos x]
  · unfold grS; rw [if_pos (by omega), if_neg (by omega)]
  · unfold grS; rw [if_neg (by omega)]
theorem M_nw {w : xW} (h : mst E t ws me w) (ht : t ≤ 38) {n i : Int} (hn : 0 ≤ n) (hn2 : n ≤ t) (hi : i = 3 * n) : rL w 41 i.toNat (E n.toNat).1 ∧ rL w 41 (i + 1).toNat (E n.toNat).2.1 ∧ rL w 41 (i + 2).toNat (E n.toNat).2.2 := by
  have k := h.nw ht (n := n.toNat) (by omega)
  rw [show i.toNat = 3 * n.toNat by omega, show (i + 1).toNat = 3 * n.toNat + 1 by omega, show (i + 2).toNat = 3 * n.toNat + 2 by omega]
  exact k
theorem M_rt {w : xW} (h : mst E t ws me w) {n i : Int} (hn : 0 ≤ n) (hn2 : n ≤ 38) (hi : i = 3 * n) : rL w 40 i.toNat (rW n.toNat) ∧ rL w 40 (i + 1).toNat (rA n.toNat) ∧ rL w 40 (i + 2).toNat (rB n.toNat) := by
  have k := h.rt (n := n.toNat) (by omega)
  rw [show i.toNat = 3 * n.toNat by omega, show (i + 1).toNat = 3 * n.toNat + 1 by omega, show (i + 2).toNat = 3 * n.toNat + 2 by omega]
  exact k
theorem m_growth (ok : okS c E t ws me) {n : Int} (hn : in32 n) : mAns E t ws me E t ws me 305 [.int (jI n)] (.int (jI (grS E t n))) := by
  intro w h
  have ht1 := ok.2.1
  have ht2 := ok.2.2.1
  have h2 := h.p0 (v := jI 0)
  refine ⟨_, Z_305 h.1 (fun w2 e _ => ?_), h2, sm_pF (by decide)⟩
  subst e
  refine ⟨_, _, _, C_isIn hn (a := 4) (b := 38) s32 s32 _, h2.1, fun c => ?_, fun c => ⟨hn, _, tmN (by omega), s32, fun d => ⟨_, h2.top, s32, fun g => ?_, fun g => ?_⟩, fun d => ?_⟩⟩
  · unfold grS; rw [if_neg (by omega)]
  · have b := ok_e ok (n := n - 2) (by omega) (by omega)
    have b' := ok_e ok (n := n) (by omega) (by omega)
    have a1 := absI_in (a := (E (n - 2).toNat).1) (by omega) (by omega)
    have a2 := absI_in (a := (E n.toNat).1) (by omega) (by omega)
    refine ⟨by omega, _, (M_nw h2 ht2 (n := n - 2) (i := 3 * n - 6) (by omega) (by omega) (by omega)).1, _, _, C_msizeZ b.1 _, h2.1, a1.1, fun x => ⟨by omega, _, (M_nw h2 ht2 (n := n) (by omega) (by omega) rfl).1, _, _, C_msizeZ b'.1 _, h2.1, a2.1, x, _, tdN a2.2, ?_⟩, fun x => ?_⟩
    · unfold grS; rw [if_pos (by omega), if_pos g, if_neg x]
    · unfold grS; rw [if_pos (by omega), if_pos g, if_pos x]
  · unfold grS; rw [if_pos (by omega), if_neg (by omega)]
  · unfold grS; rw [if_neg (by omega)]
/-! whichBelow -/
def wbF (d : Int) : Nat → Int → Int
  | 0, _ => -2
  | k + 1, n => if rB n.toNat = d then n else wbF d k (n + 2)
def wbS (d : Int) : Int := if 1 ≤ d then wbF d 19 2 else -1
theorem c_whichBelow {d : Int} (hd : in32 d) : cAns E t ws me E t ws me 119 [.int (jI d)] (.int (jI (wbS d))) := by
  intro w h
  have L : ∀ (k : Nat) (n : Int), n + 2 * k = 40 → 2 ≤ n → xGo 119 9 [some (.ref 0), some (.int (jI d)), some (.int (jI n))] [] w (some (.int (jI (wbF d k n))), w) := by
    intro k
    induction k with
    | zero => intro n h1 h2; exact Z_119_9 h.1 ⟨s32, fun c => rfl, fun c => by omega⟩
    | succ k ih =>
      intro n h1 h2
      have b := rB_pos n.toNat (by omega)
      refine Z_119_9 h.1 ⟨s32, fun c => by omega, fun c => ⟨_, _, R_below h (by omega) (by omega), h.1, hd, s64, fun x => ?_, fun x => ?_⟩⟩
      · show xGo _ _ _ _ _ (some (.int (jI (if _ = d then n else _))), w)
        rw [if_neg x]; exact ih (n + 2) (by omega) (by omega)
      · show (some (Value.int (jI (if _ = d then n else _))), w) = _
        rw [if_pos x]
  refine ⟨w, Z_119 h.1 ⟨hd, fun c => ?_, fun c => ?_⟩, h, xsame.rf⟩
  · unfold wbS; rw [if_pos c]; exact L 19 2 (by omega) (by omega)
  · unfold wbS; rw [if_neg (by omega)]
theorem m_whichBelow {d : Int} (hd : in32 d) : mAns E t ws me E t ws me 226 [.int (jI d)] (.int (jI (wbS d))) := by
  intro w h0
  have h := h0.p0 (v := jI 0)
  have L : ∀ (k : Nat) (n : Int), n + 2 * k = 40 → 2 ≤ n → xGo 226 14 [some (.ref 39), some (.int (jI d)), some (.int (jI n))] [] (pF w 39 0 (.int (jI 0))) (some (.int (jI (wbF d k n))), (pF w 39 0 (.int (jI 0)))) := by
    intro k
    induction k with
    | zero => intro n h1 h2; exact Z_226_14 h.1 ⟨s32, fun c => rfl, fun c => by omega⟩
    | succ k ih =>
      intro n h1 h2
      have b := rB_pos n.toNat (by omega)
      refine Z_226_14 h.1 ⟨s32, fun c => by omega, fun c => ⟨by omega, _, (M_rt h (n := n) (by omega) (by omega) rfl).2.2, hd, s64, fun x => ?_, fun x => ?_⟩⟩
      · show xGo _ _ _ _ _ (some (.int (jI (if _ = d then n else _))), _)
        rw [if_neg x]; exact ih (n + 2) (by omega) (by omega)
      · show (some (Value.int (jI (if _ = d then n else _))), _) = _
        rw [if_pos x]
  refine ⟨_, Z_226 h0.1 (fun w2 e _ => ?_), h, sm_pF (by decide)⟩
  subst e
  refine ⟨hd, fun c => ?_, fun c => ?_⟩
  · unfold wbS; rw [if_pos c]; exact L 19 2 (by omega) (by omega)
  · unfold wbS; rw [if_neg (by omega)]
/-! voronoi -/
def voT (m a p : Nat) : Nat → Nat
  | 0 => 0
  | j + 1 => voT m a p j + (if j = 0 then 0 else j ^ m % p * (j * a / p))
theorem voT_le {m a p : Nat} (hp : 0 < p) (hp2 : p ≤ 199) (ha : a < p) : ∀ j, j ≤ p → voT m a p j ≤ j * 40000
  | 0, _ => by simp [voT]
  | j + 1, hj => by
    have ih := voT_le (m := m) hp hp2 ha j (by omega)
    show voT m a p j + (if j = 0 then 0 else j ^ m % p * (j * a / p)) ≤ _
    generalize voT m a p j = T at ih ⊢
    split
    · exact Nat.le_trans ih (Nat.mul_le_mul_right _ (Nat.le_succ _))
    · have h1 : j ^ m % p < p := Nat.mod_lt _ hp
      have h2 : j * a / p ≤ 199 := by
        have : j * a ≤ p * a := Nat.mul_le_mul_right _ (by omega)
        have : j * a / p ≤ p * a / p := Nat.div_le_div_right this
        rw [Nat.mul_div_cancel_left _ hp] at this
        omega
      have h3 : j ^ m % p * (j * a / p) ≤ 199 * 199 := Nat.mul_le_mul (by omega) h2
      omega
def voS (n a p : Int) : Int := if 2 ≤ n ∧ n ≤ 38 ∧ n % 2 = 0 ∧ isPr p ∧ 1 ≤ a ∧ a ≤ p - 1 then ((voT (n.toNat - 1) a.toNat p.toNat p.toNat * n.toNat * a.toNat ^ (n.toNat - 1) % p.toNat : Nat) : Int) else -1
theorem vo_mod (T n A p : Nat) : T % p * (n * (A % p)) % p = T * n * A % p := by
  rw [Nat.mul_mod, Nat.mod_mod, ← Nat.mul_mod, ← Nat.mul_assoc, Nat.mul_mod, Nat.mod_mod, ← Nat.mul_mod]
theorem vo_mod2 (T n A p : Nat) : T % p * n % p * (A % p) % p = T * n * A % p := by
  rw [Nat.mul_mod, Nat.mod_mod, Nat.mod_mod, ← Nat.mul_mod, Nat.mul_mod, Nat.mul_mod (T % p) n, Nat.mod_mod, ← Nat.mul_mod T, ← Nat.mul_mod]
theorem c_voronoi {n a p : Int} (hn : in32 n) (ha : in32 a) (hp : in32 p) : cAns E t ws me E t ws me 137 [.int (jI n), .int (jI a), .int (jI p)] (.int (jI (voS n a p))) := by
  intro w h
  refine ⟨w, Z_137 h.1 ⟨_, _, _, C_isEntry hn w, h.1, fun c => ?_, fun c => ⟨_, _, _, C_isEven hn w, h.1, fun d => ?_, fun d => ⟨_, _, _, C_isPrime hp h.1.noP, h.1, fun e => ?_, fun e => ⟨ha, fun f => ?_, fun f => ?_⟩⟩⟩⟩, h, xsame.rf⟩
  · unfold voS; rw [if_neg (by omega)]
  · unfold voS; rw [if_neg (by omega)]
  · unfold voS; rw [if_neg (fun z => e z.2.2.2.1)]
  · unfold voS; rw [if_neg (by omega)]
  · obtain ⟨q, hq, rfl, h1, h2⟩ := isPr_nat e
    refine ⟨s32, fun g => ?_, fun g => by unfold voS; rw [if_neg (by omega)]⟩
    unfold voS
    rw [if_pos ⟨d.1, c.2, d.2, e, f, g⟩]
    obtain ⟨m, rfl⟩ := Int.eq_ofNat_of_zero_le c.1
    obtain ⟨b, rfl⟩ := Int.eq_ofNat_of_zero_le (show 0 ≤ a by omega)
    simp only [Int.toNat_natCast]
    have L : ∀ (k j : Nat), j + k = q → 0 < j → xGo 137 41 [some (.ref 0), some (.int (jI (m : Int))), some (.int (jI (b : Int))), some (.int (jI (q : Int))), some (.long (jL ((voT (m - 1) b q j : Nat) : Int))), none, some (.int (jI (j : Int))), none] [] w (some (.int (jI ((voT (m - 1) b q q * m * b ^ (m - 1) % q : Nat) : Int))), w) := by
      intro k
      induction k with
      | zero =>
        intro j hj h0
        have e : j = q := by omega
        subst e
        have hT := voT_le (m := m - 1) (p := j) (a := b) (by omega) h2 (by omega) j (by omega)
        have hp1 : b ^ (m - 1) % j < j := Nat.mod_lt _ (by omega)
        have hp2 : voT (m - 1) b j j % j < j := Nat.mod_lt _ (by omega)
        have hpw := C_powerN (a := b) (n := m - 1) (M := j) (by omega) (by omega) (by omega) (by omega) w
        rw [show (((m - 1 : Nat) : Nat) : Int) = (m : Int) - 1 by omega] at hpw
        refine Z_137_41 h.1 ⟨s32, s32, fun _ => ⟨s32, s32, _, _, hpw, h.1, s64, by omega, _, tmN (by omega), _, _, C_least (m := (j : Int)) ?_ s64 (by omega) w, h.1, ?_⟩, fun c => by omega⟩
        · rw [← Int.natCast_emod, ← Int.natCast_mul, ← Int.natCast_mul]
          have : voT (m - 1) b j j % j * (m * (b ^ (m - 1) % j)) ≤ 199 * (38 * 199) := Nat.mul_le_mul (by omega) (Nat.mul_le_mul (by omega) (by omega))
          exact s64
        · rw [← Int.natCast_emod, ← Int.natCast_mul, ← Int.natCast_mul, ← Int.natCast_emod, vo_mod]
      | succ k ih =>
        intro j hj h0
        have hT := voT_le (m := m - 1) (p := q) (a := b) (by omega) h2 (by omega) j (by omega)
        have hjb : j * b ≤ 199 * 199 := Nat.mul_le_mul (by omega) (by omega)
        have hd2 : j * b / q ≤ j * b := Nat.div_le_self _ _
        have hpw := C_powerN (a := j) (n := m - 1) (M := q) (by omega) (by omega) (by omega) (by omega) w
        rw [show (((m - 1 : Nat) : Nat) : Int) = (m : Int) - 1 by omega] at hpw
        refine Z_137_41 h.1 ⟨s32, s32, fun c => by omega, fun _ => ⟨_, _, hpw, h.1, ?_, by omega, ((j * b / q : Nat) : Int), ?_, s32n (Nat.le_trans hd2 (by omega)), ?_⟩⟩
        · rw [← Int.natCast_mul]; exact s32
        · rw [← Int.natCast_mul, tdN (by omega)]; rfl
        · have := ih (j + 1) (by omega) (by omega)
          have e2 : voT (m - 1) b q (j + 1) = voT (m - 1) b q j + j ^ (m - 1) % q * (j * b / q) := by
            show voT _ _ _ j + (if j = 0 then 0 else _) = _
            rw [if_neg (by omega)]
          rw [e2, Int.natCast_add, Int.natCast_mul] at this
          exact this
    exact L (q - 1) 1 (by omega) (by omega)
theorem m_voronoi {n a p : Int} (hn : in32 n) (ha : in32 a) (hp : in32 p) : mAns E t ws me E t ws me 269 [.int (jI n), .int (jI a), .int (jI p)] (.int (jI (voS n a p))) := by
  intro w h0
  have h := h0.p0 (v := jI 0)
  refine ⟨_, Z_269 h0.1 (fun w2 e _ => ?_), h, sm_pF (by decide)⟩
  subst e
  revert h
  generalize pF w 39 0 (.int (jI 0)) = w
  intro h
  refine ⟨_, _, _, C_isIn hn (a := 2) (b := 38) s32 s32 w, h.1, fun c => ?_, fun c => ⟨hn, _, tmN (by omega), s32, fun d => ?_, fun d => ⟨_, _, _, C_misPrime h hp, h.1, fun e => ?_, fun e => ?_⟩⟩⟩
  · unfold voS; rw [if_neg (by omega)]
  · unfold voS; rw [if_neg (by omega)]
  · unfold voS; rw [if_neg (fun z => e z.2.2.2.1)]
  · obtain ⟨q, hq, rfl, h1, h2⟩ := isPr_nat e
    refine ⟨_, _, _, C_isIn ha (a := 1) (b := (q : Int) - 1) s32 s32 w, h.1, fun g => ?_, fun g => by unfold voS; rw [if_neg (by omega)]⟩
    unfold voS
    rw [if_pos ⟨c.1, c.2, by omega, e, g.1, g.2⟩]
    obtain ⟨m, rfl⟩ := Int.eq_ofNat_of_zero_le (show 0 ≤ n by omega)
    obtain ⟨b, rfl⟩ := Int.eq_ofNat_of_zero_le (show 0 ≤ a by omega)
    simp only [Int.toNat_natCast]
    have L : ∀ (k j : Nat), j + k = q → 0 < j → xGo 269 49 [some (.ref 39), some (.int (jI (m : Int))), some (.int (jI (b : Int))), some (.int (jI (q : Int))), some (.long (jL ((voT (m - 1) b q j : Nat) : Int))), none, some (.int (jI (j : Int)))] [] w (some (.int (jI ((voT (m - 1) b q q * m * b ^ (m - 1) % q : Nat) : Int))), w) := by
      intro k
      induction k with
      | zero =>
        intro j hj h0
        have e : j = q := by omega
        subst e
        have hT := voT_le (m := m - 1) (p := j) (a := b) (by omega) h2 (by omega) j (by omega)
        have hp1 : b ^ (m - 1) % j < j := Nat.mod_lt _ (by omega)
        have hp2 : voT (m - 1) b j j % j < j := Nat.mod_lt _ (by omega)
        have hp3 : voT (m - 1) b j j % j * m % j < j := Nat.mod_lt _ (by omega)
        have hp4 : voT (m - 1) b j j % j * m ≤ 199 * 38 := Nat.mul_le_mul (by omega) (by omega)
        have hp5 : voT (m - 1) b j j % j * m % j * (b ^ (m - 1) % j) ≤ 199 * 199 := Nat.mul_le_mul (by omega) (by omega)
        have hpw := C_mpower (a := b) (n := m - 1) (p := j) (by omega) (by omega) (by omega) (by omega) w
        rw [show (((m - 1 : Nat) : Nat) : Int) = (m : Int) - 1 by omega] at hpw
        refine Z_269_49 h.1 ⟨s32, s32, fun _ => ⟨_, _, C_rest (p := j) s64 (by omega) (by omega) w, h.1, s32, s32, ?_, by omega, ((voT (m - 1) b j j % j * m % j : Nat) : Int), ?_, _, _, hpw, h.1, s32, _, _, C_rest (p := j) ?_ (by omega) (by omega) w, h.1, ?_⟩, fun c => by omega⟩
        · rw [← Int.natCast_emod, ← Int.natCast_mul]; exact s64
        · rw [← Int.natCast_emod, ← Int.natCast_mul, tmN (by omega)]; rfl
        · rw [← Int.natCast_mul]; exact s64
        · rw [← Int.natCast_mul, ← Int.natCast_emod, vo_mod2]
      | succ k ih =>
        intro j hj h0
        have hT := voT_le (m := m - 1) (p := q) (a := b) (by omega) h2 (by omega) j (by omega)
        have hjb : j * b ≤ 199 * 199 := Nat.mul_le_mul (by omega) (by omega)
        have hd2 : j * b / q ≤ 199 := by
          have : j * b ≤ q * b := Nat.mul_le_mul_right _ (by omega)
          have : j * b / q ≤ q * b / q := Nat.div_le_div_right this
          rw [Nat.mul_div_cancel_left _ (by omega)] at this
          omega
        have hp1 : j ^ (m - 1) % q < q := Nat.mod_lt _ (by omega)
        have hp6 : j ^ (m - 1) % q * (j * b / q) ≤ 199 * 199 := Nat.mul_le_mul (by omega) hd2
        have hpw := C_mpower (a := j) (n := m - 1) (p := q) (by omega) (by omega) (by omega) (by omega) w
        rw [show (((m - 1 : Nat) : Nat) : Int) = (m : Int) - 1 by omega] at hpw
        refine Z_269_49 h.1 ⟨s32, s32, fun c => by omega, fun _ => ⟨_, _, hpw, h.1, ?_, by omega, ((j * b / q : Nat) : Int), ?_, ?_, ?_⟩⟩
        · rw [← Int.natCast_mul]; exact s32
        · rw [← Int.natCast_mul, tdN (by omega)]; rfl
        · rw [← Int.natCast_mul]; exact s32
        · have := ih (j + 1) (by omega) (by omega)
          have e2 : voT (m - 1) b q (j + 1) = voT (m - 1) b q j + j ^ (m - 1) % q * (j * b / q) := by
            show voT _ _ _ j + (if j = 0 then 0 else _) = _
            rw [if_neg (by omega)]
          rw [e2, Int.natCast_add, Int.natCast_mul] at this
          exact this
    exact L (q - 1) 1 (by omega) (by omega)
end A4
