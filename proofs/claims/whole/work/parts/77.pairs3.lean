/-! irregular, pair, regulars, second: the class's side -/
def mnP (l : List (Nat × Nat)) (z : Int) : Nat → Int
  | 0 => 0
  | i + 1 => mnP l z i + (if ((l[i]?.getD (0, 0)).1 : Int) = z then 1 else 0)
theorem mnP_ir : ∀ s : Nat, s < 46 → ∀ p ∈ prN, (s = 45 ∨ (p : Int) < prZ (s + 1)) → mnP (p9 s) p (p9 s).length = irC p := by decide +kernel
section P7
variable {c : Nat} {E : eT} {t : Int} {ws : Nat → Int} {me : memT} {w : xW}
theorem L_128 {w : xW} (hC : CS w) {l : List (Nat × Nat)} {u z : Int} (hz : in32 z) (hl : l.length ≤ 9) (hq : ∀ q ∈ l, q.1 < 1000) (P : cPl l u w) : ∀ (k i : Nat), i + k = l.length →
    xGo 128 4 [some (.ref 31), some (.int (jI z)), some (.int (jI (mnP l z i))), some (.int (jI (i : Int)))] [] w (some (.int (jI (mnP l z l.length))), w) := by
  intro k
  induction k with
  | zero =>
    intro i hi
    have e : i = l.length := by omega
    rw [e]
    exact Z_128_4 hC ⟨_, P.n, s32, s32, fun _ => rfl, fun q => by omega⟩
  | succ k ih =>
    intro i hi
    have g := ih (i + 1) (by omega)
    have gi : l[i]? = some (l[i]'(by omega)) := List.getElem?_eq_getElem (by omega)
    have r := (P.2 i _ gi).1
    have qb := hq _ (List.getElem_mem (l := l) (n := i) (by omega))
    have e : mnP l z (i + 1) = mnP l z i + (if ((l[i]'(by omega)).1 : Int) = z then 1 else 0) := by
      show mnP l z i + (if ((l[i]?.getD (0, 0)).1 : Int) = z then 1 else 0) = _
      rw [gi]
      rfl
    rw [e, show ((i + 1 : Nat) : Int) = (i : Int) + 1 by omega] at g
    refine Z_128_4 hC ⟨_, P.n, s32, s32, fun q => by omega, fun _ => ⟨fun q => by omega, fun _ => ⟨by omega, _, r, s32, hz, fun q => ?_, fun q => ?_⟩⟩⟩
    · rw [if_neg q, Int.add_zero] at g; exact g
    · rw [if_pos q] at g; exact g
theorem p9_b : ∀ s : Nat, s < 46 → ∀ q ∈ p9 s, q.1 < 1000 := by decide +kernel
theorem C_manyOf {w : xW} (hC : CS w) {s : Nat} {u z : Int} (hs : s ≤ 45) (hz : in32 z) (P : cPl (p9 s) u w) : xCall 128 [.ref 31, .int (jI z)] w (some (.int (jI (mnP (p9 s) z (p9 s).length))), w) :=
  Z_128 hC (L_128 hC hz (p9_c s (by omega)) (p9_b s (by omega)) P _ 0 (Nat.zero_add _))
def igS (p : Int) : Int := if isPr p then (irC p.toNat : Int) else -1
theorem c_irregular (ok : okS c E t ws me) {p : Int} (hp : in32 p) : cAns E t ws me E t ws me 120 [.int (jI p)] (.int (jI (igS p))) := by
  intro w h
  by_cases v : isPr p
  · have ep : ((p.toNat : Nat) : Int) = p := Int.toNat_of_nonneg v.1
    obtain ⟨w1, s, a1, a2, a3, a4, a5, a6⟩ := C_up h ok.2.2.1 ok.2.2.2.2.2.1 hp
    have r := C_manyOf a2.1 a4 hp a5
    have e := mnP_ir s (by omega) _ v.2 (by rw [ep]; exact a6)
    rw [ep] at e
    rw [e] at r
    rw [show igS p = _ from if_pos v]
    exact ⟨w1, Z_120 h.1 ⟨_, _, _, C_isPrime hp h.1.noP, h.1, fun _ => ⟨_, a1, a2.1, _, _, r, a2.1, rfl⟩, fun q => absurd v q⟩, a2, a3.mono (by decide)⟩
  · rw [show igS p = _ from if_neg v]
    exact ⟨w, Z_120 h.1 ⟨_, _, _, C_isPrime hp h.1.noP, h.1, fun q => absurd q v, fun _ => rfl⟩, h, xsame.rf⟩
/-- all nine pairs -/
theorem C_all (h : cst E t ws me w) (ok : okS c E t ws me) : ∃ w', xCall 121 [.ref 31, .int (jI 199)] w (none, w') ∧ cst E t ws me w' ∧ xsame [28, 29, 30, 31, 32, 33] w w' ∧ cPl prs9 46 w' := by
  obtain ⟨w1, s, a1, a2, a3, a4, a5, a6⟩ := C_up h ok.2.2.1 ok.2.2.2.2.2.1 (z := 199) s32
  have e : s = 45 := by
    rcases a6 with q | q
    · exact q
    · have : ∀ s : Nat, s < 45 → prZ (s + 1) ≤ 199 := by decide
      rcases Nat.lt_or_ge s 45 with z | z
      · have := this s z; omega
      · omega
  subst e
  rw [p9_45] at a5
  exact ⟨w1, a1, a2, a3, a5⟩
def prS (k x : Int) : Int := if k < 0 ∨ x < 0 ∨ 1 < x then -1 else if 9 ≤ k then -2 else if x = 0 then ((prs9[k.toNat]?.getD (0, 0)).1 : Int) else ((prs9[k.toNat]?.getD (0, 0)).2 : Int)
theorem C_size {w : xW} (hC : CS w) (P : cPl prs9 46 w) : xCall 130 [.ref 31] w (some (.int (jI 9)), w) := Z_130 hC ⟨_, P.n, rfl⟩
theorem pr9_g {k : Int} (h0 : 0 ≤ k) (h9 : k < 9) : prs9[k.toNat]? = some (prs9[k.toNat]?.getD (0, 0)) := by
  have : k.toNat < prs9.length := by show _ < 9; omega
  rw [List.getElem?_eq_getElem this]
  rfl
theorem C_first {w : xW} (hC : CS w) (P : cPl prs9 46 w) {k : Int} (hk : in32 k) (h0 : 0 ≤ k) (h9 : k < 9) : xCall 131 [.ref 31, .int (jI k)] w (some (.int (jI ((prs9[k.toNat]?.getD (0, 0)).1 : Int))), w) :=
  Z_131 hC ⟨hk, fun q => by omega, fun _ => ⟨_, P.n, ⟨by show (-2147483648 : Int) ≤ 9; decide, by show (9 : Int) ≤ 2147483647; decide⟩, fun q => by have : ((prs9.length : Nat) : Int) = 9 := rfl; omega, fun _ => ⟨fun q => by omega, fun _ => ⟨h0, _, (P.2 _ _ (pr9_g h0 h9)).1, rfl⟩⟩⟩⟩
theorem C_secnd {w : xW} (hC : CS w) (P : cPl prs9 46 w) {k : Int} (hk : in32 k) (h0 : 0 ≤ k) (h9 : k < 9) : xCall 132 [.ref 31, .int (jI k)] w (some (.int (jI ((prs9[k.toNat]?.getD (0, 0)).2 : Int))), w) :=
  Z_132 hC ⟨hk, fun q => by omega, fun _ => ⟨_, P.n, ⟨by show (-2147483648 : Int) ≤ 9; decide, by show (9 : Int) ≤ 2147483647; decide⟩, fun q => by have : ((prs9.length : Nat) : Int) = 9 := rfl; omega, fun _ => ⟨fun q => by omega, fun _ => ⟨h0, _, (P.2 _ _ (pr9_g h0 h9)).2, rfl⟩⟩⟩⟩
theorem c_pair (ok : okS c E t ws me) {k x : Int} (hk : in32 k) (hx : in32 x) : cAns E t ws me E t ws me 129 [.int (jI k), .int (jI x)] (.int (jI (prS k x))) := by
  intro w h
  by_cases v : k < 0 ∨ x < 0 ∨ 1 < x
  · rw [show prS k x = -1 from if_pos v]
    exact ⟨w, Z_129 h.1 ⟨hk, fun _ => rfl, fun _ => ⟨hx, fun _ => rfl, fun _ => ⟨fun _ => by omega, fun _ => rfl⟩⟩⟩, h, xsame.rf⟩
  · obtain ⟨w1, a1, a2, a3, a4⟩ := C_all h ok
    have z := C_size a2.1 a4
    by_cases k9 : 9 ≤ k
    · rw [show prS k x = -2 by unfold prS; rw [if_neg v, if_pos k9]]
      exact ⟨w1, Z_129 h.1 ⟨hk, fun q => by omega, fun _ => ⟨hx, fun q => by omega, fun _ => ⟨fun _ => ⟨_, a1, a2.1, _, _, z, a2.1, s32, fun q => by omega, fun _ => rfl⟩, fun q => by omega⟩⟩⟩, a2, a3.mono (by decide)⟩
    · have r1 := C_first a2.1 a4 hk (by omega) (by omega)
      have r2 := C_secnd a2.1 a4 hk (by omega) (by omega)
      rw [show prS k x = _ by unfold prS; rw [if_neg v, if_neg k9]]
      refine ⟨w1, Z_129 h.1 ⟨hk, fun q => by omega, fun _ => ⟨hx, fun q => by omega, fun _ => ⟨fun _ => ⟨_, a1, a2.1, _, _, z, a2.1, s32, fun _ => ⟨fun q => ⟨_, _, r2, a2.1, ?_⟩, fun q => ⟨_, _, r1, a2.1, ?_⟩⟩, fun q => by omega⟩, fun q => by omega⟩⟩⟩, a2, a3.mono (by decide)⟩
      · rw [if_neg q]
      · rw [if_pos q]
/-- regular primes up to z -/
def rgC (z : Int) : Nat → Int
  | 0 => 0
  | i + 1 => rgC z i + (if 3 ≤ prZ i ∧ prZ i ≤ z ∧ irC (prZ i).toNat = 0 then 1 else 0)
def rgS (z : Int) : Int := if 3 ≤ z ∧ z ≤ 199 then rgC z 46 else -1
theorem prZ_i3 : ∀ i : Nat, i < 46 → 3 ≤ prZ i → (prZ i).toNat ∈ prN ∧ (((prZ i).toNat : Nat) : Int) = prZ i ∧ prZ i ≤ 199 := by decide
theorem irC_b : ∀ p ∈ prN, irC p ≤ 9 := by decide +kernel
theorem L_147 {w : xW} (hC : CS w) {z u : Int} (hz : in32 z) {s : Nat} (hs : s ≤ 45) (P : cPl (p9 s) u w) (H : s = 45 ∨ z < prZ (s + 1)) : ∀ (k i : Nat), i + k = 46 →
    xGo 147 35 [some (.ref 0), some (.int (jI z)), some (.int (jI (rgC z i))), some (.ref xP), some (.int (jI 46)), some (.int (jI (i : Int))), none] [] w (some (.int (jI (rgC z 46))), w) := by
  intro k
  induction k with
  | zero =>
    intro i hi
    have e : i = 46 := by omega
    subst e
    exact Z_147_35 hC ⟨s32, s32, fun _ => rfl, fun q => by omega⟩
  | succ k ih =>
    intro i hi
    have g := ih (i + 1) (by omega)
    have e : rgC z (i + 1) = rgC z i + (if 3 ≤ prZ i ∧ prZ i ≤ z ∧ irC (prZ i).toNat = 0 then 1 else 0) := rfl
    have et : (i : Int).toNat = i := Int.toNat_natCast i
    rw [e, show ((i + 1 : Nat) : Int) = (i : Int) + 1 by omega] at g
    refine Z_147_35 hC ⟨s32, s32, fun q => by omega, fun _ => ⟨⟨by omega, by omega⟩, fun q => ?_, fun q => ⟨hz, fun q2 => ?_, fun q2 => ?_⟩⟩⟩
    · rw [et] at q
      rw [if_neg (by omega), Int.add_zero] at g
      exact g
    · rw [et] at q2
      rw [if_neg (by omega), Int.add_zero] at g
      exact g
    · rw [et] at q q2 ⊢
      obtain ⟨m1, m2, m3⟩ := prZ_i3 i (by omega) q
      have r := C_manyOf hC hs (z := prZ i) ⟨by omega, by omega⟩ P
      have ei := mnP_ir s (by omega) _ m1 (by rw [m2]; omega)
      have ib := irC_b _ m1
      rw [m2] at ei
      rw [ei] at r
      refine ⟨_, _, r, hC, s32, fun q3 => ?_, fun q3 => ?_⟩
      · rw [if_neg (by omega), Int.add_zero] at g
        exact g
      · rw [if_pos (by omega)] at g
        exact g
theorem c_regulars (ok : okS c E t ws me) {z : Int} (hz : in32 z) : cAns E t ws me E t ws me 147 [.int (jI z)] (.int (jI (rgS z))) := by
  intro w h
  by_cases v : 3 ≤ z ∧ z ≤ 199
  · obtain ⟨w1, s, a1, a2, a3, a4, a5, a6⟩ := C_up h ok.2.2.1 ok.2.2.2.2.2.1 hz
    have g := L_147 a2.1 hz a4 a5 a6 46 0 rfl
    rw [show rgS z = _ from if_pos v]
    exact ⟨w1, Z_147 h.1 ⟨hz, fun q => by omega, fun _ => ⟨fun _ => ⟨_, a1, a2.1, g⟩, fun q => by omega⟩⟩, a2, a3.mono (by decide)⟩
  · rw [show rgS z = _ from if_neg v]
    exact ⟨w, Z_147 h.1 ⟨hz, fun _ => rfl, fun _ => ⟨fun _ => by omega, fun _ => rfl⟩⟩, h, xsame.rf⟩
/-! second: what was worked out for the nine pairs: p, k, the inverses of k and k + p - 1 modulo p p, byNumber of both, the step that is found -/
def scL : List (Nat × Nat × Nat × Nat × Nat × Nat × Nat) := [(37, 32, 984, 302, 37, 814, 7), (59, 44, 2769, 1604, 1357, 2891, 15), (67, 58, 387, 4308, 2881, 4288, 49), (101, 68, 10051, 8683, 3030, 7272, 57), (103, 24, 10167, 421, 10094, 5047, 2), (131, 22, 16381, 8016, 4323, 7598, 93), (149, 130, 1537, 17649, 16986, 6556, 74), (157, 62, 9144, 3279, 18997, 1884, 40), (157, 110, 13669, 278, 7065, 15072, 73)]
def scA (r : Nat × Nat × Nat × Nat × Nat × Nat × Nat) : Prop :=
  7 ≤ r.1 ∧ r.1 ≤ 199 ∧ r.2.1 ≤ 199 ∧ r.2.2.1 < r.1 * r.1 ∧ r.2.2.2.1 < r.1 * r.1 ∧ r.2.2.1 * r.2.1 % (r.1 * r.1) = 1 ∧ r.2.2.2.1 * (r.2.1 + r.1 - 1) % (r.1 * r.1) = 1 ∧
  psum r.2.1 r.1 % (r.1 * r.1 * r.1) / r.1 * r.2.2.1 % (r.1 * r.1) = r.2.2.2.2.1 ∧ psum (r.2.1 + r.1 - 1) r.1 % (r.1 * r.1 * r.1) / r.1 * r.2.2.2.1 % (r.1 * r.1) = r.2.2.2.2.2.1 ∧
  r.2.2.2.2.2.2 < r.1 ∧ (∀ i, i < r.2.2.2.2.2.2 → ((r.2.2.2.2.1 : Int) + (i : Int) * ((r.2.2.2.2.2.1 : Int) - (r.2.2.2.2.1 : Int))) % ((r.1 : Int) * (r.1 : Int)) ≠ 0) ∧ ((r.2.2.2.2.1 : Int) + (r.2.2.2.2.2.2 : Int) * ((r.2.2.2.2.2.1 : Int) - (r.2.2.2.2.1 : Int))) % ((r.1 : Int) * (r.1 : Int)) = 0
theorem scA_all : ∀ r ∈ scL, scA r := by unfold scA; decide +kernel
theorem C_byNr {p k y v : Nat} (h1 : 7 ≤ p) (h2 : p ≤ 199) (hk : k ≤ 1000) (hy : y < p * p) (iy : y * k % (p * p) = 1) (hv : psum k p % (p * p * p) / p * y % (p * p) = v) (w : xW) (hC : CS w) : xCall 135 [.int (jI (k : Int)), .int (jI (p : Int))] w (some (.long (jL (v : Int))), w) := by
  have pp : p * p ≤ 39601 := Nat.mul_le_mul h2 h2
  have p7 : 49 ≤ p * p := Nat.mul_le_mul h1 h1
  have ppp : p * p * p ≤ 39601 * 199 := Nat.mul_le_mul pp h2
  have pp7 : 49 * 7 ≤ p * p * p := Nat.mul_le_mul p7 h1
  have e2 : (p : Int) * p = ((p * p : Nat) : Int) := (Int.natCast_mul p p).symm
  have e3 : (p : Int) * p * p = ((p * p * p : Nat) : Int) := by rw [e2, ← Int.natCast_mul]
  have r := C_powerSum (n := k) (p := p) (M := p * p * p) (by omega) (by omega) (by omega) (by omega) (by omega) w
  have ml := Nat.mod_lt (psum k p) (show 0 < p * p * p by omega)
  have iv := C_invN (a := (k : Int)) (m := ((p * p : Nat) : Int)) (y := (y : Int)) ⟨by omega, by omega⟩ (by omega) (by omega) (by omega) (by omega) (by
    refine ⟨((y * k / (p * p) : Nat) : Int), ?_⟩
    have := Nat.div_add_mod (y * k) (p * p)
    rw [iy] at this
    rw [← Int.natCast_mul, ← Int.natCast_mul]
    omega) w
  have dl : psum k p % (p * p * p) / p ≤ psum k p % (p * p * p) := Nat.div_le_self _ _
  have mb := Nat.mul_le_mul (show psum k p % (p * p * p) / p ≤ 39601 * 199 by omega) (show y ≤ 39601 by omega)
  have d1 : Int.tdiv ((psum k p % (p * p * p) : Nat) : Int) (p : Int) = ((psum k p % (p * p * p) / p : Nat) : Int) := by
    rw [tdN (by omega), Int.natCast_ediv]
  have d2 : Int.tmod (((psum k p % (p * p * p) / p : Nat) : Int) * (y : Int)) ((p : Int) * p) = (v : Int) := by
    rw [← Int.natCast_mul, tmN (by omega), e2, ← Int.natCast_emod, hv]
  refine Z_135 hC ⟨⟨by omega, by omega⟩, fun _ => ⟨_, _, by rw [e3]; exact r, hC, ⟨by omega, by omega⟩, by omega, _, d1, ⟨by omega, by omega⟩, _, _, by rw [e2]; exact iv, hC, by rw [← Int.natCast_mul]; exact ⟨by omega, by omega⟩, by rw [e2]; exact ⟨by omega, by omega⟩, by rw [e2]; omega, _, d2, rfl⟩, fun q => by omega⟩
theorem L_134 {w : xW} (hC : CS w) {p k r5 r9 j : Nat} (h2 : p ≤ 199) (h7 : 7 ≤ p) (hk : k ≤ 199) (b5 : r5 < p * p) (b9 : r9 < p * p) (hj : j < p) (H : ∀ i, i < j → ((r5 : Int) + (i : Int) * ((r9 : Int) - (r5 : Int))) % ((p : Int) * (p : Int)) ≠ 0) (Hj : ((r5 : Int) + (j : Int) * ((r9 : Int) - (r5 : Int))) % ((p : Int) * (p : Int)) = 0) : ∀ (f i : Nat), i + f = j →
    xGo 134 38 [some (.int (jI (p : Int))), some (.int (jI (k : Int))), some (.long (jL ((p : Int) * p))), none, some (.long (jL (r5 : Int))), none, some (.long (jL ((r9 : Int) - (r5 : Int)))), none, some (.int (jI (i : Int)))] [] w (some (.int (jI ((k : Int) + (j : Int) * ((p : Int) - 1)))), w) := by
  have pp : p * p ≤ 39601 := Nat.mul_le_mul h2 h2
  have p7 : 49 ≤ p * p := Nat.mul_le_mul h7 h7
  have e2 : (p : Int) * p = ((p * p : Nat) : Int) := (Int.natCast_mul p p).symm
  have L : ∀ i : Nat, i < p → xCall 54 [.long (jL ((r5 : Int) + (i : Int) * ((r9 : Int) - (r5 : Int)))), .long (jL ((p : Int) * p))] w (some (.long (jL (((r5 : Int) + (i : Int) * ((r9 : Int) - (r5 : Int))) % ((p : Int) * p)))), w) := fun i hi => by
    have mb := mul_ab (a := (i : Int)) (A := 199) (b := (r9 : Int) - (r5 : Int)) (B := 39601) (by omega) (by omega)
    exact C_least ⟨by omega, by omega⟩ (by rw [e2]; exact ⟨by omega, by omega⟩) (by rw [e2]; omega) w
  have B : ∀ x : Int, 0 ≤ x % ((p : Int) * p) ∧ x % ((p : Int) * p) < 39602 := fun x => by
    rw [e2]
    have := Int.emod_nonneg x (show ((p * p : Nat) : Int) ≠ 0 by omega)
    have := Int.emod_lt_of_pos x (show (0 : Int) < ((p * p : Nat) : Int) by omega)
    omega
  intro f
  induction f with
  | zero =>
    intro i hi
    have e : i = j := by omega
    subst e
    refine Z_134_38 hC ⟨s32, s32, fun q => by omega, fun _ => ⟨_, _, L i hj, hC, ⟨by have := B ((r5 : Int) + (i : Int) * ((r9 : Int) - (r5 : Int))); omega, by have := B ((r5 : Int) + (i : Int) * ((r9 : Int) - (r5 : Int))); omega⟩, fun q => absurd Hj q, fun _ => rfl⟩⟩
  | succ f ih =>
    intro i hi
    have g := ih (i + 1) (by omega)
    rw [show ((i + 1 : Nat) : Int) = (i : Int) + 1 by omega] at g
    exact Z_134_38 hC ⟨s32, s32, fun q => by omega, fun _ => ⟨_, _, L i (by omega), hC, ⟨by have := B ((r5 : Int) + (i : Int) * ((r9 : Int) - (r5 : Int))); omega, by have := B ((r5 : Int) + (i : Int) * ((r9 : Int) - (r5 : Int))); omega⟩, fun _ => g, fun q => absurd q (H i (by omega))⟩⟩
def scR (k : Int) : Nat × Nat × Nat × Nat × Nat × Nat × Nat := scL[k.toNat]?.getD (0, 0, 0, 0, 0, 0, 0)
def scS (k : Int) : Int := if k < 0 then -1 else if 9 ≤ k then -2 else ((scR k).2.1 : Int) + ((scR k).2.2.2.2.2.2 : Int) * (((scR k).1 : Int) - 1)
theorem scR_g {k : Int} (h0 : 0 ≤ k) (h9 : k < 9) : scA (scR k) ∧ (prs9[k.toNat]?.getD (0, 0)) = ((scR k).1, (scR k).2.1) := by
  have kn : k.toNat < 9 := by omega
  have e : ∀ i : Nat, i < 9 → (prs9[i]?.getD (0, 0)) = ((scL[i]?.getD (0, 0, 0, 0, 0, 0, 0)).1, (scL[i]?.getD (0, 0, 0, 0, 0, 0, 0)).2.1) := by decide
  have kl : k.toNat < scL.length := kn
  have m : scR k ∈ scL := by
    unfold scR
    rw [List.getElem?_eq_getElem kl]
    exact List.getElem_mem kl
  exact ⟨scA_all _ m, e _ kn⟩
theorem c_second (ok : okS c E t ws me) {k : Int} (hk : in32 k) : cAns E t ws me E t ws me 133 [.int (jI k)] (.int (jI (scS k))) := by
  intro w h
  by_cases v : k < 0
  · rw [show scS k = -1 from if_pos v]
    exact ⟨w, Z_133 h.1 ⟨hk, fun q => by omega, fun _ => rfl⟩, h, xsame.rf⟩
  · obtain ⟨w1, a1, a2, a3, a4⟩ := C_all h ok
    have z := C_size a2.1 a4
    by_cases k9 : 9 ≤ k
    · rw [show scS k = -2 by unfold scS; rw [if_neg v, if_pos k9]]
      exact ⟨w1, Z_133 h.1 ⟨hk, fun _ => ⟨_, a1, a2.1, _, _, z, a2.1, s32, fun q => by omega, fun _ => rfl⟩, fun q => by omega⟩, a2, a3.mono (by decide)⟩
    · have r1 := C_first a2.1 a4 hk (by omega) (by omega)
      have r2 := C_secnd a2.1 a4 hk (by omega) (by omega)
      obtain ⟨⟨q1, q2, q3, q4, q5, q6, q7, q8, q9, q10, q11, q12⟩, ee⟩ := scR_g (k := k) (by omega) (by omega)
      rw [ee] at r1 r2
      rw [show scS k = _ by unfold scS; rw [if_neg v, if_neg k9]]
      have b1 := C_byNr q1 q2 (by omega) q4 q6 q8 w1 a2.1
      have b2 := C_byNr q1 q2 (by omega) q5 q7 q9 w1 a2.1
      have m1 := Nat.mod_lt (psum (scR k).2.1 (scR k).1 % ((scR k).1 * (scR k).1 * (scR k).1) / (scR k).1 * (scR k).2.2.1) (show 0 < (scR k).1 * (scR k).1 by omega)
      have m2 := Nat.mod_lt (psum ((scR k).2.1 + (scR k).1 - 1) (scR k).1 % ((scR k).1 * (scR k).1 * (scR k).1) / (scR k).1 * (scR k).2.2.2.1) (show 0 < (scR k).1 * (scR k).1 by omega)
      rw [q8] at m1
      rw [q9] at m2
      have l := L_134 a2.1 q2 q1 q3 m1 m2 q10 q11 q12 _ 0 (Nat.zero_add _)
      rw [show (((scR k).2.1 + (scR k).1 - 1 : Nat) : Int) = ((scR k).2.1 : Int) + ((scR k).1 : Int) - 1 by omega] at b2
      have r3 := Z_134 (z0 := ((scR k).1 : Int)) (z1 := ((scR k).2.1 : Int)) a2.1 ⟨s32, fun _ => ⟨_, _, b1, a2.1, _, _, b2, a2.1, l⟩, fun q => by omega⟩
      exact ⟨w1, Z_133 h.1 ⟨hk, fun _ => ⟨_, a1, a2.1, _, _, z, a2.1, s32, fun _ => ⟨_, _, r1, a2.1, _, _, r2, a2.1, _, _, r3, a2.1, rfl⟩, fun q => by omega⟩, fun q => by omega⟩, a2, a3.mono (by decide)⟩
end P7
