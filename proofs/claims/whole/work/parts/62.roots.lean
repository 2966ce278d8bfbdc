/-! the calls at and roots -/
theorem pas_sym : ∀ n : Nat, n < 39 → ((pasr n).take (n + 1)).reverse = (pasr n).take (n + 1) := by decide +kernel
theorem cb_sym {n k : Nat} (hn : n ≤ 38) (hk : k ≤ n) : cb n (n - k) = cb n k := by
  have l : ∀ j, j ≤ n → ((pasr n).take (n + 1))[j]? = some (cb n j) := by
    intro j hj
    rw [List.getElem?_take, if_pos (by omega)]
    exact pasr_get n j (by omega)
  have len : ((pasr n).take (n + 1)).length = n + 1 := by
    have a := l n (by omega)
    have b := (List.getElem?_eq_some_iff.mp a).1
    have d := List.length_take_le (n + 1) (pasr n)
    omega
  have s := pas_sym n (by omega)
  have a := l k hk
  rw [← s, List.getElem?_reverse (by omega), len] at a
  rw [show n + 1 - 1 - k = n - k by omega, l (n - k) (by omega)] at a
  exact Option.some.inj a
section A2
variable {c : Nat} {E : eT} {t : Int} {ws : Nat → Int} {me : memT} {w : xW}
def pyB (E : eT) (n p : Nat) : Bool := (List.range (n + 1)).all (fun k => decide ((E k).2.2 % (p : Int) ≠ 0))
abbrev pyO (E : eT) (n p : Nat) : Prop := pyB E n p = true
theorem pyO_t {n p : Nat} (h : ∀ k, k ≤ n → (E k).2.2 % (p : Int) ≠ 0) : pyO E n p := by
  unfold pyO pyB
  rw [List.all_eq_true]
  exact fun k hk => decide_eq_true (h k (by have := List.mem_range.mp hk; omega))
theorem pyO_f {n p k : Nat} (hk : k ≤ n) (h : (E k).2.2 % (p : Int) = 0) : ¬ pyO E n p := by
  unfold pyO pyB
  rw [List.all_eq_true]
  intro z
  exact of_decide_eq_true (z k (List.mem_range.mpr (by omega))) h
def pyR (E : eT) (n p k : Nat) : Int := (cb n k : Nat) % (p : Int) * resV (E k) p % p
def pyC (E : eT) (n p : Nat) : Nat → Int := fun j => (cb n j : Nat) * resV (E (n - j)) p
def pyV (E : eT) (n p : Nat) (x : Int) : Int := evP (pyC E n p) x (n + 1) 0 % p
theorem L_171 (ok : okS c E t ws me) {n p : Nat} (nt : (n : Int) ≤ t) (hp : p ∈ prN) : ∀ (k i : Nat) (w : xW), i + k = n + 1 → cst E t ws me w → (∀ j, j < i → (E j).2.2 % (p : Int) ≠ 0 ∧ rL w 37 j (pyR E n p j)) →
    ∃ w', xGo 171 9 [some (.ref 0), some (.int (jI (n : Int))), some (.int (jI (p : Int))), some (.int (jI (i : Int)))] [] w (some (.int (bz (pyO E n p))), w') ∧ cst E t ws me w' ∧ xsame [37] w w' ∧ (pyO E n p → ∀ j, j ≤ n → rL w' 37 j (pyR E n p j)) := by
  have ht := ok.2.2.1
  have pb := prN_b p hp
  intro k
  induction k with
  | zero =>
    intro i w hi h H
    refine ⟨w, Z_171_9 h.1 ⟨s32, s32, fun _ => ?_, fun q => by omega⟩, h, xsame.rf, fun _ j hj => (H j (by omega)).2⟩
    rw [bz_t (pyO_t (fun k hk => (H k (by omega)).1))]; rfl
  | succ k ih =>
    intro i w hi h H
    have eb := ok_e ok (n := (i : Int)) (by omega) (by omega)
    rw [Int.toNat_natCast] at eb
    have nb := N_below h ht (n := (i : Int)) (by omega) (by omega)
    rw [Int.toNat_natCast] at nb
    have m0 := Int.emod_nonneg (E i).2.2 (show (p : Int) ≠ 0 by omega)
    have m1 := Int.emod_lt_of_pos (E i).2.2 (show 0 < (p : Int) by omega)
    by_cases q : (E i).2.2 % (p : Int) = 0
    · refine ⟨w, Z_171_9 h.1 ⟨s32, s32, fun z => by omega, fun _ => ⟨fun z => by omega, fun _ => ⟨_, _, nb, h.1, s32, eb.2.2.1, by omega, _, tmN (by omega), ⟨by omega, by omega⟩, fun z => absurd q z, fun _ => ?_⟩⟩⟩, h, xsame.rf, fun z => absurd z (pyO_f (by omega) q)⟩
      rw [bz_f (pyO_f (k := i) (by omega) q)]; rfl
    · have cbb := cb_41 (n := n) (k := i) (by omega)
      have o := C_of h (n := (n : Int)) (k := (i : Int)) (by omega) (by omega) (by omega) (by omega)
      rw [Int.toNat_natCast, Int.toNat_natCast] at o
      have tm := T_modulo (w := w) (e := 12) (n := i) (p := p) ok.1 h.1.e12 h.2.2.2.2.1 (by omega) (by omega) (ok.2.2.2.1 i (by omega)) hp (ndvd_of q)
      have rb := resV_le (e := E i) (p := p) (by omega)
      have c0 := Int.emod_nonneg ((cb n i : Nat) : Int) (show (p : Int) ≠ 0 by omega)
      have c1 := Int.emod_lt_of_pos ((cb n i : Nat) : Int) (show 0 < (p : Int) by omega)
      have mm := mul_b c0 (show ((cb n i : Nat) : Int) % (p : Int) ≤ 200 by omega) rb.1 (show resV (E i) p ≤ 200 by omega)
      have sm : xsame [37] w (pL w 37 i (jL (pyR E n p i))) := sm_pL (by decide)
      have h2 : cst E t ws me (pL w 37 i (jL (pyR E n p i))) := h.same sm (by decide) h.1.putL
      obtain ⟨w', g1, g2, g3, g4⟩ := ih (i + 1) _ (by omega) h2 (fun j hj => by
        by_cases z : j = i
        · rw [z]; exact ⟨q, ((kl_37 h.1).has (by decide) (by omega)).put⟩
        · exact ⟨(H j (by omega)).1, (H j (by omega)).2.put z⟩)
      refine ⟨w', Z_171_9 h.1 ⟨s32, s32, fun z => by omega, fun _ => ⟨fun z => by omega, fun _ => ⟨_, _, nb, h.1, s32, eb.2.2.1, by omega, _, tmN (by omega), ⟨by omega, by omega⟩, fun _ => ⟨_, _, o, h.1, ⟨by omega, by omega⟩, by omega, _, tmN (by omega), _, _, tm, h.1, ⟨by omega, by omega⟩, by omega, _, tmN mm.1, ⟨by omega, by omega⟩, fun w31 e31 _ => ?_⟩, fun z => absurd z q⟩⟩⟩, g2, sm.trans g3, g4⟩
      rw [e31]; exact g1
theorem C_fillPoly (h : cst E t ws me w) (ok : okS c E t ws me) {n p : Nat} (nt : (n : Int) ≤ t) (hp : p ∈ prN) : ∃ w', xCall 171 [.ref 0, .int (jI (n : Int)), .int (jI (p : Int))] w (some (.int (bz (pyO E n p))), w') ∧ cst E t ws me w' ∧ xsame [37] w w' ∧ (pyO E n p → ∀ j, j ≤ n → rL w' 37 j (pyR E n p j)) := by
  have pb := prN_b p hp
  obtain ⟨w', g1, g2, g3, g4⟩ := L_171 ok nt hp (n + 1) 0 w (by omega) h (fun j hj => by omega)
  exact ⟨w', Z_171 h.1 ⟨s32, fun _ => g1, fun q => by omega⟩, g2, g3, g4⟩
theorem L_172 (h : cst E t ws me w) {n p : Nat} {x : Int} (n38 : n ≤ 38) (hp : p ∈ prN) (x0 : 0 ≤ x) (xp : x < p) (H : ∀ j, j ≤ n → rL w 37 j (pyR E n p j)) : ∀ (k i : Nat) (T : Int), i + k = n + 1 → 0 ≤ T → T < p → cg p T (evP (pyC E n p) x i (n + 1 - i)) →
    xGo 172 14 [some (.ref 0), some (.int (jI (n : Int))), some (.long (jL x)), none, some (.int (jI (p : Int))), some (.long (jL T)), none, some (.int (jI (i : Int)))] [] w (some (.long (jL (pyV E n p x))), w) := by
  have pb := prN_b p hp
  intro k
  induction k with
  | zero =>
    intro i T hi T0 T1 hT
    have e : i = n + 1 := by omega
    subst e
    rw [Nat.sub_self] at hT
    have ev : T = pyV E n p x := cg.lt (m := (p : Int)) (hT.tr cg.mod.sm) T0 T1 (Int.emod_nonneg _ (by omega)) (Int.emod_lt_of_pos _ (by omega))
    rw [ev]
    exact Z_172_14 h.1 ⟨s32, s32, fun _ => rfl, fun q => by omega⟩
  | succ k ih =>
    intro i T hi T0 T1 hT
    have tx := mul_b T0 (show T ≤ 200 by omega) x0 (show x ≤ 200 by omega)
    have r0 : 0 ≤ pyR E n p i := Int.emod_nonneg _ (by omega)
    have r1 : pyR E n p i < p := Int.emod_lt_of_pos _ (by omega)
    have step : cg p ((T * x + pyR E n p i) % p) (evP (pyC E n p) x (i + 1) (n + 1 - (i + 1))) := by
      show cg p _ (pyC E n p (n + 1 - (i + 1)) + x * evP (pyC E n p) x i (n + 1 - (i + 1) + 1))
      rw [show n + 1 - (i + 1) + 1 = n + 1 - i by omega, show n + 1 - (i + 1) = n - i by omega, Int.add_comm (pyC E n p (n - i)), Int.mul_comm x]
      refine cg.mod.tr ((hT.mul cg.rf).add (cg.mod.tr ?_))
      show cg p ((cb n i : Nat) % (p : Int) * resV (E i) p) ((cb n (n - i) : Nat) * resV (E (n - (n - i))) p)
      rw [cb_sym n38 (by omega), show n - (n - i) = i by omega]
      exact cg.mod.mul cg.rf
    have g := ih (i + 1) _ (by omega) (Int.emod_nonneg _ (by omega)) (Int.emod_lt_of_pos _ (by omega)) step
    exact Z_172_14 h.1 ⟨s32, s32, fun q => by omega, fun _ => ⟨fun q => by omega, fun _ => ⟨by omega, _, H i (by omega), s32, ⟨by omega, by omega⟩, by omega, _, tmN (by omega), g⟩⟩⟩
theorem C_polyAt (h : cst E t ws me w) {n p : Nat} {x : Int} (n38 : n ≤ 38) (hp : p ∈ prN) (x0 : 0 ≤ x) (xp : x < p) (H : ∀ j, j ≤ n → rL w 37 j (pyR E n p j)) : xCall 172 [.ref 0, .int (jI (n : Int)), .long (jL x), .int (jI (p : Int))] w (some (.long (jL (pyV E n p x))), w) := by
  have pb := prN_b p hp
  exact Z_172 h.1 ⟨s32, fun _ => L_172 h n38 hp x0 xp H (n + 1) 0 0 (by omega) (by decide) (by omega) cg.rf, fun q => by omega⟩
/-! the model's -/
def pyM (E : eT) (n p k : Nat) : Int := resV (E (n - k)) p * ((cb n k : Nat) % (p : Int)) % p
theorem L_293 (ok : okS c E t ws me) {n p : Nat} (nt : (n : Int) ≤ t) (hp : p ∈ prN) : ∀ (k i : Nat) (w : xW), i + k = n + 1 → mst E t ws me w → (∀ j, j < i → (E (n - j)).2.2 % (p : Int) ≠ 0 ∧ rI w 63 j (pyM E n p j)) →
    ∃ w', xGo 293 13 [some (.ref 39), some (.int (jI (n : Int))), some (.int (jI (p : Int))), some (.int (jI (i : Int))), none] [] w (some (.int (jI (if pyO E n p then 0 else -3))), w') ∧ mst E t ws me w' ∧ xsame [63] w w' ∧ (pyO E n p → ∀ j, j ≤ n → rI w' 63 j (pyM E n p j)) := by
  have ht := ok.2.2.1
  have pb := prN_b p hp
  intro k
  induction k with
  | zero =>
    intro i w hi h H
    refine ⟨w, Z_293_13 h.1 ⟨s32, s32, fun _ => ?_, fun q => by omega⟩, h, xsame.rf, fun _ j hj => (H j (by omega)).2⟩
    rw [if_pos (pyO_t (fun k hk => by have := (H (n - k) (by omega)).1; rw [show n - (n - k) = k by omega] at this; exact this))]
  | succ k ih =>
    intro i w hi h H
    have rs := C_restOfZ h ok hp (n := (n : Int) - (i : Int)) (by omega) (by omega)
    rw [show ((n : Int) - (i : Int)).toNat = n - i by omega] at rs
    have rl := resS_le (e := E (n - i)) (p := p) (by omega)
    by_cases q : (E (n - i)).2.2 % (p : Int) = 0
    · have ng := (resS_neg (e := E (n - i)) (p := p) (by omega)).mpr q
      have e3 : resS (E (n - i)) p = -3 := if_pos (Int.dvd_of_emod_eq_zero q)
      refine ⟨w, Z_293_13 h.1 ⟨s32, s32, fun z => by omega, fun _ => ⟨_, _, rs, h.1, s32, fun z => by omega, fun _ => ?_⟩⟩, h, xsame.rf, fun z => absurd z (pyO_f (k := n - i) (by omega) q)⟩
      rw [if_neg (pyO_f (k := n - i) (by omega) q)]
    · have e3 : resS (E (n - i)) p = resV (E (n - i)) p := if_neg (ndvd_of q)
      rw [e3] at rs rl
      have rb := resV_le (e := E (n - i)) (p := p) (by omega)
      have cbb := cb_41 (n := n) (k := i) (by omega)
      have rc := h.cb (n := n) (k := i) (by omega) (by omega)
      rw [show 40 * n + i = (40 * (n : Int) + (i : Int)).toNat by omega] at rc
      have c0 := Int.emod_nonneg ((cb n i : Nat) : Int) (show (p : Int) ≠ 0 by omega)
      have c1 := Int.emod_lt_of_pos ((cb n i : Nat) : Int) (show 0 < (p : Int) by omega)
      have mm := mul_b rb.1 (show resV (E (n - i)) p ≤ 200 by omega) c0 (show ((cb n i : Nat) : Int) % (p : Int) ≤ 200 by omega)
      have r1 := C_rest (a := ((cb n i : Nat) : Int)) (p := p) ⟨by omega, by omega⟩ (by omega) (by omega) w
      have r2 := C_rest (a := resV (E (n - i)) p * (((cb n i : Nat) : Int) % (p : Int))) (p := p) ⟨by omega, by omega⟩ (by omega) (by omega) w
      have sm : xsame [63] w (pI w 63 i (jI (pyM E n p i))) := sm_pI (by decide)
      have h2 : mst E t ws me (pI w 63 i (jI (pyM E n p i))) := h.same1 sm h.1.putI
      obtain ⟨w', g1, g2, g3, g4⟩ := ih (i + 1) _ (by omega) h2 (fun j hj => by
        by_cases z : j = i
        · rw [z]; exact ⟨q, ((kl_63 h.1).has (by decide) (by omega)).put⟩
        · exact ⟨(H j (by omega)).1, (H j (by omega)).2.put z⟩)
      refine ⟨w', Z_293_13 h.1 ⟨s32, s32, fun z => by omega, fun _ => ⟨_, _, rs, h.1, s32, fun _ => ⟨by omega, _, rc, _, _, r1, h.1, ⟨by omega, by omega⟩, _, _, r2, h.1, ⟨by omega, by omega⟩, fun w22 e22 _ => ?_⟩, fun z => by omega⟩⟩, g2, sm.trans g3, g4⟩
      rw [e22]; exact g1
theorem L_294 (h : mst E t ws me w) {n p : Nat} {x : Int} (n38 : n ≤ 38) (hp : p ∈ prN) (x0 : 0 ≤ x) (xp : x < p) (H : ∀ j, j ≤ n → rI w 63 j (pyM E n p j)) : ∀ (j : Nat) (T : Int), j ≤ n + 1 → 0 ≤ T → T < p → cg p T (evP (pyC E n p) x (n + 1 - j) j) →
    xGo 294 6 [some (.ref 39), some (.int (jI (n : Int))), some (.int (jI x)), some (.int (jI (p : Int))), some (.int (jI T)), some (.int (jI ((j : Int) - 1)))] [] w (some (.int (jI (pyV E n p x))), w) := by
  have pb := prN_b p hp
  intro j
  induction j with
  | zero =>
    intro T hj T0 T1 hT
    have ev : T = pyV E n p x := cg.lt (m := (p : Int)) (hT.tr cg.mod.sm) T0 T1 (Int.emod_nonneg _ (by omega)) (Int.emod_lt_of_pos _ (by omega))
    rw [ev]
    exact Z_294_6 h.1 ⟨s32, fun _ => rfl, fun q => by omega⟩
  | succ j ih =>
    intro T hj T0 T1 hT
    have tx := mul_b T0 (show T ≤ 200 by omega) x0 (show x ≤ 200 by omega)
    have r0 : 0 ≤ pyM E n p j := Int.emod_nonneg _ (by omega)
    have r1 : pyM E n p j < p := Int.emod_lt_of_pos _ (by omega)
    have step : cg p ((T * x + pyM E n p j) % p) (evP (pyC E n p) x (n + 1 - j) j) := by
      rw [show n + 1 - j = (n + 1 - (j + 1)) + 1 by omega]
      show cg p _ (pyC E n p j + x * evP (pyC E n p) x (n + 1 - (j + 1)) (j + 1))
      rw [Int.add_comm (pyC E n p j), Int.mul_comm x]
      refine cg.mod.tr ((hT.mul cg.rf).add (cg.mod.tr ?_))
      show cg p (resV (E (n - j)) p * ((cb n j : Nat) % (p : Int))) ((cb n j : Nat) * resV (E (n - j)) p)
      rw [Int.mul_comm]
      exact cg.mod.mul cg.rf
    have g := ih _ (by omega) (Int.emod_nonneg _ (by omega)) (Int.emod_lt_of_pos _ (by omega)) step
    rw [show (((j + 1 : Nat) : Int) - 1) = (j : Int) by omega]
    exact Z_294_6 h.1 ⟨s32, fun q => by omega, fun _ => ⟨by omega, _, H j (by omega), ⟨by omega, by omega⟩, s32, by omega, _, tmN (by omega), g⟩⟩
theorem C_mpolyAt (h : mst E t ws me w) {n p : Nat} {x : Int} (n38 : n ≤ 38) (hp : p ∈ prN) (x0 : 0 ≤ x) (xp : x < p) (H : ∀ j, j ≤ n → rI w 63 j (pyM E n p j)) : xCall 294 [.ref 39, .int (jI (n : Int)), .int (jI x), .int (jI (p : Int))] w (some (.int (jI (pyV E n p x))), w) := by
  have pb := prN_b p hp
  have g := L_294 h n38 hp x0 xp H (n + 1) 0 (by omega) (by decide) (by omega) (by rw [Nat.sub_self]; exact cg.rf)
  rw [show (((n + 1 : Nat) : Int) - 1) = (n : Int) by omega] at g
  exact Z_294 h.1 g
theorem pyV_b {n p : Nat} {x : Int} (hp : p ∈ prN) : 0 ≤ pyV E n p x ∧ pyV E n p x < 200 := by
  have pb := prN_b p hp
  have a : 0 ≤ pyV E n p x := Int.emod_nonneg _ (by omega)
  have b : pyV E n p x < p := Int.emod_lt_of_pos _ (by omega)
  exact ⟨a, by omega⟩
/-! at -/
def atS (E : eT) (t n x p : Int) : Int := if (0 ≤ n ∧ n ≤ 38) ∧ isPr p ∧ (0 ≤ x ∧ x ≤ p - 1) then (if n ≤ t then (if pyO E n.toNat p.toNat then pyV E n.toNat p.toNat x else -3) else -2) else -1
theorem c_at (ok : okS c E t ws me) {n x p : Int} (hn : in32 n) (hx : in32 x) (hp : in32 p) : cAns E t ws me E t ws me 170 [.int (jI n), .int (jI x), .int (jI p)] (.int (jI (atS E t n x p))) := by
  intro w h
  have ht1 := ok.2.1
  have ht := ok.2.2.1
  by_cases v : (0 ≤ n ∧ n ≤ 38) ∧ isPr p ∧ (0 ≤ x ∧ x ≤ p - 1)
  · have pb := prN_b _ v.2.1.2
    have en : ((n.toNat : Nat) : Int) = n := Int.toNat_of_nonneg v.1.1
    have ep : ((p.toNat : Nat) : Int) = p := Int.toNat_of_nonneg v.2.1.1
    by_cases nt : n ≤ t
    · obtain ⟨w1, a1, a2, a3, a4⟩ := C_fillPoly h ok (n := n.toNat) (p := p.toNat) (by omega) v.2.1.2
      rw [en, ep] at a1
      have e0 : atS E t n x p = (if pyO E n.toNat p.toNat then pyV E n.toNat p.toNat x else -3) := by unfold atS; rw [if_pos v, if_pos nt]
      rw [e0]
      refine ⟨w1, Z_170 h.1 ⟨_, _, _, C_isEntry hn w, h.1, fun q => absurd v.1 q, fun _ => ⟨_, _, _, C_isPrime hp h.1.noP, h.1, fun q => absurd v.2.1 q, fun _ => ⟨hx, fun q => by omega, fun _ => ⟨s32, fun _ => ⟨_, h.top, hn, s32, fun _ => ⟨_, _, _, a1, a2.1, fun q => ?_, fun q => ?_⟩, fun q => by omega⟩, fun q => by omega⟩⟩⟩⟩, a2, a3.mono (by decide)⟩
      · rw [if_neg q]
      · have g := C_polyAt a2 (n := n.toNat) (p := p.toNat) (x := x) (by omega) v.2.1.2 v.2.2.1 (by omega) (a4 q)
        rw [en, ep] at g
        rw [if_pos q]
        exact ⟨_, _, g, a2.1, rfl⟩
    · rw [show atS E t n x p = -2 by unfold atS; rw [if_pos v, if_neg nt]]
      exact ⟨w, Z_170 h.1 ⟨_, _, _, C_isEntry hn w, h.1, fun q => absurd v.1 q, fun _ => ⟨_, _, _, C_isPrime hp h.1.noP, h.1, fun q => absurd v.2.1 q, fun _ => ⟨hx, fun q => by omega, fun _ => ⟨s32, fun _ => ⟨_, h.top, hn, s32, fun q => by omega, fun _ => rfl⟩, fun q => by omega⟩⟩⟩⟩, h, xsame.rf⟩
  · rw [show atS E t n x p = -1 from if_neg v]
    exact ⟨w, Z_170 h.1 ⟨_, _, _, C_isEntry hn w, h.1, fun _ => rfl, fun q1 => ⟨_, _, _, C_isPrime hp h.1.noP, h.1, fun _ => rfl, fun q2 => ⟨hx, fun _ => rfl, fun q3 => ⟨⟨by have := q2.1; omega, by have := hp.2; omega⟩, fun q4 => absurd ⟨q1, q2, q3, q4⟩ v, fun _ => rfl⟩⟩⟩⟩, h, xsame.rf⟩
theorem m_at (ok : okS c E t ws me) {n x p : Int} (hn : in32 n) (hx : in32 x) (hp : in32 p) : mAns E t ws me E t ws me 292 [.int (jI n), .int (jI x), .int (jI p)] (.int (jI (atS E t n x p))) := by
  intro w h0
  have h := h0.p0 (v := jI 0)
  have s0 : xsame mAll w (pF w 39 0 (.int (jI 0))) := sm_pF (by decide)
  have ht1 := ok.2.1
  have ht := ok.2.2.1
  by_cases v : (0 ≤ n ∧ n ≤ 38) ∧ isPr p ∧ (0 ≤ x ∧ x ≤ p - 1)
  · have pb := prN_b _ v.2.1.2
    have en : ((n.toNat : Nat) : Int) = n := Int.toNat_of_nonneg v.1.1
    have ep : ((p.toNat : Nat) : Int) = p := Int.toNat_of_nonneg v.2.1.1
    by_cases nt : n ≤ t
    · obtain ⟨w1, a1, a2, a3, a4⟩ := L_293 ok (n := n.toNat) (p := p.toNat) (by omega) v.2.1.2 (n.toNat + 1) 0 _ (by omega) h (fun j hj => by omega)
      rw [en, ep] at a1
      have e0 : atS E t n x p = (if pyO E n.toNat p.toNat then pyV E n.toNat p.toNat x else -3) := by unfold atS; rw [if_pos v, if_pos nt]
      rw [e0]
      have lp := Z_293 h.1 ⟨_, h.top, hn, s32, fun _ => a1, fun q => by omega⟩
      refine ⟨w1, Z_292 h0.1 (fun w3 e _ => ?_), a2, s0.trans (a3.mono (by decide))⟩
      subst e
      refine ⟨_, _, _, C_misEntry hn _, h.1, fun q => absurd v.1 q, fun _ => ⟨_, _, _, C_misPrime h hp, h.1, fun q => absurd v.2.1 q, fun _ => ⟨_, _, _, C_isIn hx s32 s32 _, h.1, fun _ => ⟨_, _, lp, a2.1, by split <;> exact s32, fun q => ?_, fun q => ?_⟩, fun q => absurd v.2.2 q⟩⟩⟩
      · have o : pyO E n.toNat p.toNat := Decidable.not_not.mp (fun z => by rw [if_neg z] at q; omega)
        have g := C_mpolyAt a2 (n := n.toNat) (p := p.toNat) (x := x) (by omega) v.2.1.2 v.2.2.1 (by omega) (a4 o)
        rw [en, ep] at g
        rw [if_pos o]
        exact ⟨_, _, g, a2.1, rfl⟩
      · have o : ¬ pyO E n.toNat p.toNat := fun z => by rw [if_pos z] at q; omega
        rw [if_neg o, if_neg o]
    · rw [show atS E t n x p = -2 by unfold atS; rw [if_pos v, if_neg nt]]
      have lp : xCall 293 [.ref 39, .int (jI n), .int (jI p)] (pF w 39 0 (.int (jI 0))) (some (.int (jI (-2))), pF w 39 0 (.int (jI 0))) := Z_293 h.1 ⟨_, h.top, hn, s32, fun q => by omega, fun _ => rfl⟩
      refine ⟨_, Z_292 h0.1 (fun w3 e _ => ?_), h, s0⟩
      subst e
      exact ⟨_, _, _, C_misEntry hn _, h.1, fun q => absurd v.1 q, fun _ => ⟨_, _, _, C_misPrime h hp, h.1, fun q => absurd v.2.1 q, fun _ => ⟨_, _, _, C_isIn hx s32 s32 _, h.1, fun _ => ⟨_, _, lp, h.1, s32, fun q => by omega, fun _ => rfl⟩, fun q => absurd v.2.2 q⟩⟩⟩
  · rw [show atS E t n x p = -1 from if_neg v]
    refine ⟨_, Z_292 h0.1 (fun w3 e _ => ?_), h, s0⟩
    subst e
    exact ⟨_, _, _, C_misEntry hn _, h.1, fun _ => rfl, fun q1 => ⟨_, _, _, C_misPrime h hp, h.1, fun _ => rfl, fun q2 => ⟨_, _, _, C_isIn hx s32 ⟨by have := q2.1; omega, by have := hp.2; omega⟩ _, h.1, fun q3 => absurd ⟨q1, q2, q3⟩ v, fun _ => rfl⟩⟩⟩
/-! roots -/
def rtC (E : eT) (n p : Nat) : Nat → Int
  | 0 => 0
  | x + 1 => rtC E n p x + (if pyV E n p (x : Int) = 0 then 1 else 0)
def rtS (E : eT) (t n p : Int) : Int := if (0 ≤ n ∧ n ≤ 38) ∧ isPr p then (if n ≤ t then (if pyO E n.toNat p.toNat then rtC E n.toNat p.toNat p.toNat else -3) else -2) else -1
theorem L_173 (h : cst E t ws me w) {n p : Nat} (n38 : n ≤ 38) (hp : p ∈ prN) (H : ∀ j, j ≤ n → rL w 37 j (pyR E n p j)) : ∀ (k x : Nat), x + k = p →
    xGo 173 44 [some (.ref 0), some (.int (jI (n : Int))), some (.int (jI (p : Int))), some (.int (jI (rtC E n p x))), some (.int (jI (x : Int)))] [] w (some (.int (jI (rtC E n p p))), w) := by
  have pb := prN_b p hp
  intro k
  induction k with
  | zero =>
    intro x hx
    have e : x = p := by omega
    subst e
    exact Z_173_44 h.1 ⟨s32, s32, fun _ => rfl, fun q => by omega⟩
  | succ k ih =>
    intro x hx
    have g := ih (x + 1) (by omega)
    have vb := pyV_b (E := E) (n := n) (x := (x : Int)) hp
    have e : rtC E n p (x + 1) = rtC E n p x + (if pyV E n p (x : Int) = 0 then 1 else 0) := rfl
    rw [e] at g
    refine Z_173_44 h.1 ⟨s32, s32, fun q => by omega, fun _ => ⟨_, _, C_polyAt h n38 hp (x := (x : Int)) (by omega) (by omega) H, h.1, ⟨by omega, by omega⟩, fun q => ?_, fun q => ?_⟩⟩
    · rw [if_neg q, Int.add_zero] at g; exact g
    · rw [if_pos q] at g; exact g
theorem c_roots (ok : okS c E t ws me) {n p : Int} (hn : in32 n) (hp : in32 p) : cAns E t ws me E t ws me 173 [.int (jI n), .int (jI p)] (.int (jI (rtS E t n p))) := by
  intro w h
  have ht1 := ok.2.1
  have ht := ok.2.2.1
  by_cases v : (0 ≤ n ∧ n ≤ 38) ∧ isPr p
  · have pb := prN_b _ v.2.2
    have en : ((n.toNat : Nat) : Int) = n := Int.toNat_of_nonneg v.1.1
    have ep : ((p.toNat : Nat) : Int) = p := Int.toNat_of_nonneg v.2.1
    by_cases nt : n ≤ t
    · obtain ⟨w1, a1, a2, a3, a4⟩ := C_fillPoly h ok (n := n.toNat) (p := p.toNat) (by omega) v.2.2
      rw [en, ep] at a1
      rw [show rtS E t n p = (if pyO E n.toNat p.toNat then rtC E n.toNat p.toNat p.toNat else -3) by unfold rtS; rw [if_pos v, if_pos nt]]
      refine ⟨w1, Z_173 h.1 ⟨_, _, _, C_isEntry hn w, h.1, fun q => absurd v.1 q, fun _ => ⟨_, _, _, C_isPrime hp h.1.noP, h.1, fun _ => ⟨_, h.top, hn, s32, fun _ => ⟨_, _, _, a1, a2.1, fun q => ?_, fun q => ?_⟩, fun q => by omega⟩, fun q => absurd v.2 q⟩⟩, a2, a3.mono (by decide)⟩
      · have g := L_173 a2 (n := n.toNat) (p := p.toNat) (by omega) v.2.2 (a4 q) p.toNat 0 (by omega)
        rw [en, ep] at g
        rw [if_pos q]
        exact g
      · rw [if_neg q]
    · rw [show rtS E t n p = -2 by unfold rtS; rw [if_pos v, if_neg nt]]
      exact ⟨w, Z_173 h.1 ⟨_, _, _, C_isEntry hn w, h.1, fun q => absurd v.1 q, fun _ => ⟨_, _, _, C_isPrime hp h.1.noP, h.1, fun _ => ⟨_, h.top, hn, s32, fun q => by omega, fun _ => rfl⟩, fun q => absurd v.2 q⟩⟩, h, xsame.rf⟩
  · rw [show rtS E t n p = -1 from if_neg v]
    exact ⟨w, Z_173 h.1 ⟨_, _, _, C_isEntry hn w, h.1, fun _ => rfl, fun q1 => ⟨_, _, _, C_isPrime hp h.1.noP, h.1, fun q2 => absurd ⟨q1, q2⟩ v, fun _ => rfl⟩⟩, h, xsame.rf⟩
theorem L_295 (h : mst E t ws me w) {n p : Nat} {u : Int} (n38 : n ≤ 38) (hp : p ∈ prN) (H : ∀ j, j ≤ n → rI w 63 j (pyM E n p j)) : ∀ (k x : Nat), x + k = p →
    xGo 295 42 [some (.ref 39), some (.int (jI (n : Int))), some (.int (jI (p : Int))), some (.int (jI u)), some (.int (jI (rtC E n p x))), some (.int (jI (x : Int)))] [] w (some (.int (jI (rtC E n p p))), w) := by
  have pb := prN_b p hp
  intro k
  induction k with
  | zero =>
    intro x hx
    have e : x = p := by omega
    subst e
    exact Z_295_42 h.1 ⟨s32, s32, fun _ => rfl, fun q => by omega⟩
  | succ k ih =>
    intro x hx
    have g := ih (x + 1) (by omega)
    have vb := pyV_b (E := E) (n := n) (x := (x : Int)) hp
    have e : rtC E n p (x + 1) = rtC E n p x + (if pyV E n p (x : Int) = 0 then 1 else 0) := rfl
    rw [e] at g
    refine Z_295_42 h.1 ⟨s32, s32, fun q => by omega, fun _ => ⟨_, _, C_mpolyAt h n38 hp (x := (x : Int)) (by omega) (by omega) H, h.1, ⟨by omega, by omega⟩, fun q => ?_, fun q => ?_⟩⟩
    · rw [if_neg q] at g; exact g
    · rw [if_pos q] at g; exact g
theorem m_roots (ok : okS c E t ws me) {n p : Int} (hn : in32 n) (hp : in32 p) : mAns E t ws me E t ws me 295 [.int (jI n), .int (jI p)] (.int (jI (rtS E t n p))) := by
  intro w h0
  have h := h0.p0 (v := jI 0)
  have s0 : xsame mAll w (pF w 39 0 (.int (jI 0))) := sm_pF (by decide)
  have ht1 := ok.2.1
  have ht := ok.2.2.1
  by_cases v : (0 ≤ n ∧ n ≤ 38) ∧ isPr p
  · have pb := prN_b _ v.2.2
    have en : ((n.toNat : Nat) : Int) = n := Int.toNat_of_nonneg v.1.1
    have ep : ((p.toNat : Nat) : Int) = p := Int.toNat_of_nonneg v.2.1
    by_cases nt : n ≤ t
    · obtain ⟨w1, a1, a2, a3, a4⟩ := L_293 ok (n := n.toNat) (p := p.toNat) (by omega) v.2.2 (n.toNat + 1) 0 _ (by omega) h (fun j hj => by omega)
      rw [en, ep] at a1
      rw [show rtS E t n p = (if pyO E n.toNat p.toNat then rtC E n.toNat p.toNat p.toNat else -3) by unfold rtS; rw [if_pos v, if_pos nt]]
      have lp := Z_293 h.1 ⟨_, h.top, hn, s32, fun _ => a1, fun q => by omega⟩
      refine ⟨w1, Z_295 h0.1 (fun w3 e _ => ?_), a2, s0.trans (a3.mono (by decide))⟩
      subst e
      refine ⟨_, _, _, C_misEntry hn _, h.1, fun q => absurd v.1 q, fun _ => ⟨_, _, _, C_misPrime h hp, h.1, fun _ => ⟨_, _, lp, a2.1, by split <;> exact s32, fun q => ?_, fun q => ?_⟩, fun q => absurd v.2 q⟩⟩
      · have o : pyO E n.toNat p.toNat := Decidable.not_not.mp (fun z => by rw [if_neg z] at q; omega)
        have g := L_295 a2 (n := n.toNat) (p := p.toNat) (u := if pyO E n.toNat p.toNat then 0 else -3) (by omega) v.2.2 (a4 o) p.toNat 0 (by omega)
        rw [en, ep] at g
        rw [show (if pyO E n.toNat p.toNat then rtC E n.toNat p.toNat p.toNat else -3) = rtC E n.toNat p.toNat p.toNat from if_pos o]
        exact g
      · have o : ¬ pyO E n.toNat p.toNat := fun z => by rw [if_pos z] at q; omega
        rw [if_neg o, if_neg o]
    · rw [show rtS E t n p = -2 by unfold rtS; rw [if_pos v, if_neg nt]]
      have lp : xCall 293 [.ref 39, .int (jI n), .int (jI p)] (pF w 39 0 (.int (jI 0))) (some (.int (jI (-2))), pF w 39 0 (.int (jI 0))) := Z_293 h.1 ⟨_, h.top, hn, s32, fun q => by omega, fun _ => rfl⟩
      refine ⟨_, Z_295 h0.1 (fun w3 e _ => ?_), h, s0⟩
      subst e
      exact ⟨_, _, _, C_misEntry hn _, h.1, fun q => absurd v.1 q, fun _ => ⟨_, _, _, C_misPrime h hp, h.1, fun _ => ⟨_, _, lp, h.1, s32, fun q => by omega, fun _ => rfl⟩, fun q => absurd v.2 q⟩⟩
  · rw [show rtS E t n p = -1 from if_neg v]
    refine ⟨_, Z_295 h0.1 (fun w3 e _ => ?_), h, s0⟩
    subst e
    exact ⟨_, _, _, C_misEntry hn _, h.1, fun _ => rfl, fun q1 => ⟨_, _, _, C_misPrime h hp, h.1, fun q2 => absurd ⟨q1, q2⟩ v, fun _ => rfl⟩⟩
end A2
