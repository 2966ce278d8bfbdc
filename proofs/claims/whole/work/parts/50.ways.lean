/-! the three ways give the right entries; the calls prime and whole -/
def trn : Nat → List (Int × Int) → List (Int × Int)
  | k, a :: b :: l => tS k a b :: trn (k + 1) (b :: l)
  | _, _ => []
theorem trn_get : ∀ (l : List (Int × Int)) (k j : Nat) (a b : Int × Int), l[j]? = some a → l[j + 1]? = some b → (trn k l)[j]? = some (tS (k + j) a b)
  | [], k, j, a, b, h1, h2 => by simp at h1
  | [x], k, j, a, b, h1, h2 => by simp at h2
  | x :: y :: l, k, 0, a, b, h1, h2 => by
    have e1 : x = a := by simpa using h1
    have e2 : y = b := by simpa using h2
    rw [← e1, ← e2]; rfl
  | x :: y :: l, k, j + 1, a, b, h1, h2 => by
    have ih := trn_get (y :: l) (k + 1) j a b (by simpa using h1) (by simpa using h2)
    rw [show k + (j + 1) = k + 1 + j by omega]
    exact ih
def trw : Nat → List (Int × Int)
  | 0 => (List.range 39).map (tT 0)
  | r + 1 => trn 0 (trw r)
theorem trw_get : ∀ r k : Nat, k + r ≤ 38 → (trw r)[k]? = some (tT r k)
  | 0, k, h => by
    show ((List.range 39).map (tT 0))[k]? = some (tT 0 k)
    rw [List.getElem?_map, List.getElem?_range (by omega)]; rfl
  | r + 1, k, h => by
    have a := trn_get (trw r) 0 k _ _ (trw_get r k (by omega)) (trw_get r (k + 1) (by omega))
    rw [Nat.zero_add] at a
    exact a
def trE (n : Nat) (p : Int × Int) : Int × Int × Int := (if n = 1 then p.1 - 1 else p.1, prA p.2 tU, prB p.2 tU)
theorem tri_c : ∀ n : Nat, n < 39 → ((trw n)[0]?.map (trE n)) = some (rE n) := by decide +kernel
theorem tri_r {n : Nat} (h : n < 39) : trE n (tT n 0) = rE n := by
  have a := tri_c n h
  rw [trw_get n 0 (by omega)] at a
  exact Option.some.inj a
/-! by the recurrence -/
def mlE (f : Int) (e : Int × Int × Int) : Int × Int × Int := (nfW (f * e.1) (f * e.2.1) e.2.2, nfA (f * e.2.1) e.2.2, nfB (f * e.2.1) e.2.2)
def dvE (d : Int) (e : Int × Int × Int) : Int × Int × Int := (nfW (e.1 / d) (e.1 % d * e.2.2 + e.2.1) (e.2.2 * d), nfA (e.1 % d * e.2.2 + e.2.1) (e.2.2 * d), nfB (e.1 % d * e.2.2 + e.2.1) (e.2.2 * d))
def ttE (T : Int) : Int × Int × Int := (T / uA, nfA (T % uA) uA, nfB (T % uA) uA)
theorem rec_c : ∀ n : Nat, n < 39 → 1 ≤ n → dvE (n + 1) (mlE (-1) (ttE (sTf (pasr (n + 1)) n))) = rE n := by decide +kernel
theorem rec_b : ∀ n : Nat, n < 39 → 1 ≤ n → -1000000000000000000 ≤ (mlE (-1) (ttE (sTf (pasr (n + 1)) n))).1 ∧ (mlE (-1) (ttE (sTf (pasr (n + 1)) n))).1 ≤ 1000000000000000000 := by decide +kernel
theorem sT_eq {E F : eT} {N : Nat} : ∀ m : Nat, (∀ k, k < m → E k = F k) → sT E N m = sT F N m
  | 0, _ => rfl
  | m + 1, h => by
    show sT E N m + cb N m * tv uA (E m) = sT F N m + cb N m * tv uA (F m)
    rw [sT_eq m (fun k hk => h k (by omega)), h m (by omega)]
theorem nfB_le {a b : Int} (hb : 0 < b) : 0 < nfB a b ∧ nfB a b ≤ b := by
  obtain ⟨n0, n1, n2, n3⟩ := nf_ok (a := a) hb
  exact ⟨by omega, Int.le_of_dvd hb n2⟩
theorem set_set {w : xW} {i : Nat} {c d : xC} : (w.set i c).set i d = w.set i d := List.set_set ..
theorem m36 {w : xW} (hC : CS w) {x y z f : Int} (h : w[36]? = some (frac x y z)) (hz : 0 < z) (h2 : in64 (f * y)) (h3 : in64 z) : xCall 43 [.ref 36, .long (jL f)] w (none, w.set 36 (frac (mlE f (x, y, z)).1 (mlE f (x, y, z)).2.1 (mlE f (x, y, z)).2.2)) := C_multiply h hz h2 h3
theorem d36 {w : xW} (hC : CS w) {x y z d : Int} (h : w[36]? = some (frac x y z)) (hz : 0 < z) (hd : 0 < d) (d64 : in64 d) (x64 : in64 x) (h2 : in64 (x % d * z + y)) (h3 : in64 (z * d)) : xCall 44 [.ref 36, .long (jL d)] w (none, w.set 36 (frac (dvE d (x, y, z)).1 (dvE d (x, y, z)).2.1 (dvE d (x, y, z)).2.2)) := C_divide h hz hd d64 x64 h2 h3
/-! primes below -/
theorem bel_39 : ∀ n : Nat, n < 39 → ∀ i : Nat, i < 46 → belP (prZ i) (n : Int) → prZ i ∣ uA ∧ prZ i ≤ 39 := by decide +kernel
theorem bel_rB : ∀ n : Nat, n < 39 → ∀ i : Nat, i < 46 → (belP (prZ i) (n : Int) ↔ rB n % prZ i = 0) := by decide +kernel
def apS (n f : Int) : Nat → Int
  | 0 => 0
  | i + 1 => if belP (prZ i) n then apS n f i + f * (0 * uA + 1 * (uA / prZ i)) else apS n f i
def ivB (n : Int) (p : Nat) : Nat → Int
  | 0 => 0
  | i + 1 => if belP (prZ i) n then ivB n p i + fi (prZ i) p else ivB n p i
def svP : Nat → Int
  | 0 => 1
  | k + 1 => svP k * prZ (12 + k)
def svG (n : Int) (p : Nat) (found : Int) : Int := (((psum n.toNat p % (p * p) / p : Nat) : Int) + ivB n p 46 - found) % p
def svF (n : Int) : Nat → Int
  | 0 => 0
  | k + 1 => svF n k + svP k * (svG n (prZ (12 + k)).toNat (svF n k) * fi (svP k) (prZ (12 + k)).toNat % prZ (12 + k))
def svW (n : Int) : Int := if svF n 9 ≤ svP 9 / 2 then svF n 9 else svF n 9 - svP 9
theorem sv_c : ∀ n : Nat, n < 39 → 2 ≤ n → n % 2 = 0 → ttE (svW n * uA + apS n (-1) 46) = rE n := by decide +kernel
theorem svP_b : ∀ k : Nat, k < 10 → 1 ≤ svP k ∧ svP k ≤ 100000000000000000 := by decide +kernel
theorem svP_n : ∀ k : Nat, k < 9 → svP k % prZ (12 + k) ≠ 0 := by decide +kernel
theorem pr_12 : ∀ i : Nat, i < 46 → 12 ≤ i → 41 ≤ prZ i := by decide +kernel
theorem C_addPrimes {n f : Int} (n0 : 0 ≤ n) (hn : n ≤ 38) (hf : f = 1 ∨ f = -1) : ∀ (k i : Nat) (w : xW) (T : Int), i + k = 46 → CS w → tot w uA (T + apS n f i) →
    ∃ w', xGo 55 11 [some (.ref 0), some (.int (jI n)), some (.int (jI f)), some (.ref xP), some (.int (jI 46)), some (.int (jI (i : Int))), none] [] w (none, w') ∧ CS w' ∧ xsame [3] w w' ∧ tot w' uA (T + apS n f 46) := by
  intro k
  induction k with
  | zero =>
    intro i w T hi hC hT
    have e : i = 46 := by omega
    subst e
    exact ⟨w, Z_55_11 hC ⟨s32, s32, fun _ => rfl, fun q => by omega⟩, hC, xsame.rf, hT⟩
  | succ k ih =>
    intro i w T hi hC hT
    have b := prZ_le i
    have b2 := prZ_2 i (by omega)
    have e : apS n f (i + 1) = if belP (prZ i) n then apS n f i + f * (0 * uA + 1 * (uA / prZ i)) else apS n f i := rfl
    have ib := C_isBelow hC b.1 (show prZ i ≤ 200 by omega) (n := n) s32
    by_cases q : belP (prZ i) n
    · have d := bel_39 n.toNat (by omega) i (by omega) (by rw [Int.toNat_of_nonneg n0]; exact q)
      obtain ⟨w1, a1, a2, a3, a4⟩ := C_add hC (f := f) (x := 0) (a := 1) (b := prZ i) hT (by decide) (by decide) (by omega) d.1 (by rw [Int.mul_one]; rcases hf with r | r <;> rw [r] <;> exact ⟨by decide, by decide⟩)
      rw [if_pos q] at e
      rw [Int.add_assoc, ← e] at a4
      obtain ⟨w2, b1, b2', b3, b4⟩ := ih (i + 1) w1 T (by omega) a2 a4
      refine ⟨w2, Z_55_11 hC ⟨s32, s32, fun q => by omega, fun _ => ⟨⟨by omega, by omega⟩, _, _, _, ib, hC, fun z => absurd q z, fun _ => ⟨?_, _, a1, a2, b1⟩⟩⟩, b2', a3.trans b3, b4⟩
      rcases hf with r | r <;> rw [r] <;> exact ⟨by decide, by decide⟩
    · rw [if_neg q] at e
      obtain ⟨w2, b1, b2', b3, b4⟩ := ih (i + 1) w T (by omega) hC (by rw [e]; exact hT)
      exact ⟨w2, Z_55_11 hC ⟨s32, s32, fun q => by omega, fun _ => ⟨⟨by omega, by omega⟩, _, _, _, ib, hC, fun _ => b1, fun z => absurd z q⟩⟩, b2', b3, b4⟩
theorem L_inversesBelow {w : xW} (hC : CS w) {n : Int} (n0 : 0 ≤ n) (hn : n ≤ 38) {p : Nat} (hp : p ∈ prN) (p41 : 41 ≤ p) : ∀ (k i : Nat), i + k = 46 →
    xGo 51 15 [some (.int (jI n)), some (.int (jI (p : Int))), some (.long (jL (ivB n p i))), none, some (.ref xP), some (.int (jI 46)), some (.int (jI (i : Int))), none] [] w (some (.long (jL (ivB n p 46))), w) := by
  have pb := prN_b p hp
  intro k
  induction k with
  | zero =>
    intro i hi
    have e : i = 46 := by omega
    subst e
    exact Z_51_15 hC ⟨s32, s32, fun _ => rfl, fun q => by omega⟩
  | succ k ih =>
    intro i hi
    have b := prZ_le i
    have b2 := prZ_2 i (by omega)
    have e : ivB n p (i + 1) = if belP (prZ i) n then ivB n p i + fi (prZ i) p else ivB n p i := rfl
    have ih2 := ih (i + 1) (by omega)
    refine Z_51_15 hC ⟨s32, s32, fun q => by omega, fun _ => ⟨⟨by omega, by omega⟩, _, _, _, C_isBelow hC b.1 (show prZ i ≤ 200 by omega) s32, hC, fun q => ?_, fun q => ⟨s32, ?_⟩⟩⟩
    · rw [e, if_neg (show ¬ belP (prZ i) n from q)] at ih2; exact ih2
    · have q : belP (prZ i) n := q
      have d := bel_39 n.toNat (by omega) i (by omega) (by rw [Int.toNat_of_nonneg n0]; exact q)
      have nd : ¬ (p : Int) ∣ prZ i := fun z => by have := Int.le_of_dvd (by omega) z; omega
      have fb := fi_le (b := prZ i) (p := p) (by omega)
      rw [e, if_pos q] at ih2
      exact ⟨_, _, C_invN (a := prZ i) (m := (p : Int)) (y := fi (prZ i) p) s64 (by omega) (by omega) fb.1 fb.2 (fi_one hp nd) w, hC, ih2⟩
theorem ivB_b {n : Int} {p : Nat} (hp : 3 ≤ p) (hp2 : p ≤ 199) : ∀ i : Nat, 0 ≤ ivB n p i ∧ ivB n p i ≤ 199 * i
  | 0 => ⟨Int.le_refl 0, Int.le_refl 0⟩
  | i + 1 => by
    have a := ivB_b (n := n) hp hp2 i
    have b := fi_le (b := prZ i) (p := p) hp
    show 0 ≤ (if belP (prZ i) n then ivB n p i + fi (prZ i) p else ivB n p i) ∧ (if belP (prZ i) n then ivB n p i + fi (prZ i) p else ivB n p i) ≤ 199 * ((i + 1 : Nat) : Int)
    split
    · exact ⟨by omega, by omega⟩
    · exact ⟨by omega, by omega⟩
theorem svF_b (n : Int) : ∀ k : Nat, k < 10 → 0 ≤ svF n k ∧ svF n k < svP k
  | 0, _ => ⟨Int.le_refl 0, show (0 : Int) < 1 by decide⟩
  | k + 1, h => by
    have a := svF_b n k (by omega)
    have p := svP_b k (by omega)
    have p12 := pr_12 (12 + k) (by omega) (by omega)
    show 0 ≤ svF n k + svP k * (svG n (prZ (12 + k)).toNat (svF n k) * fi (svP k) (prZ (12 + k)).toNat % prZ (12 + k)) ∧ svF n k + svP k * (svG n (prZ (12 + k)).toNat (svF n k) * fi (svP k) (prZ (12 + k)).toNat % prZ (12 + k)) < svP k * prZ (12 + k)
    have y0 := Int.emod_nonneg (svG n (prZ (12 + k)).toNat (svF n k) * fi (svP k) (prZ (12 + k)).toNat) (show prZ (12 + k) ≠ 0 by omega)
    have y1 := Int.emod_lt_of_pos (svG n (prZ (12 + k)).toNat (svF n k) * fi (svP k) (prZ (12 + k)).toNat) (show 0 < prZ (12 + k) by omega)
    revert y0 y1
    generalize svG n (prZ (12 + k)).toNat (svF n k) * fi (svP k) (prZ (12 + k)).toNat % prZ (12 + k) = y
    intro y0 y1
    have m0 : 0 ≤ svP k * y := Int.mul_nonneg (by omega) y0
    have m1 : svP k * (y + 1) ≤ svP k * prZ (12 + k) := Int.mul_le_mul_of_nonneg_left (by omega) (by omega)
    rw [Int.mul_add, Int.mul_one] at m1
    exact ⟨by omega, by omega⟩
theorem sv_rng {x : Nat} {a b : Int} (hx : x ≤ 39601) (a0 : 0 ≤ a) (a1 : a ≤ 10000) (b0 : 0 ≤ b) (b1 : b ≤ 100000000000000000) : in64 ((x : Int) + a - b) := ⟨by omega, by omega⟩
theorem L_sieved {w : xW} (hC : CS w) {n : Int} (n0 : 0 ≤ n) (hn : n ≤ 38) : ∀ (k i : Nat), i + k = 9 →
    xGo 48 9 [some (.ref 0), some (.int (jI n)), some (.long (jL (svF n i))), none, some (.long (jL (svP i))), none, some (.int (jI ((12 + i : Nat) : Int))), none, none, none, none, none] [] w (some (.long (jL (svW n))), w) := by
  intro k
  induction k with
  | zero =>
    intro i hi
    have e : i = 9 := by omega
    subst e
    have a := svF_b n 9 (by decide)
    have p := svP_b 9 (by decide)
    refine Z_48_9 hC ⟨s32, fun _ => ⟨s64, _, tdN (by omega), s64, s64, fun q => ?_, fun q => ?_⟩, fun q => by omega⟩
    · rw [show svW n = svF n 9 from if_pos q]
    · rw [show svW n = svF n 9 - svP 9 from if_neg (by omega)]
  | succ k ih =>
    intro i hi
    have a := svF_b n i (by omega)
    have p := svP_b i (by omega)
    have pn := svP_n i (by omega)
    have p12 := pr_12 (12 + i) (by omega) (by omega)
    have pb := prZ_le (12 + i)
    have hp := prZ_pr (12 + i) (by omega) (by omega)
    have pz := prZ_n (12 + i)
    have q3 : 3 ≤ (prZ (12 + i)).toNat ∧ (prZ (12 + i)).toNat ≤ 199 := by omega
    have pc := pcub q3.1 q3.2
    have ps := C_powerSum (n := n.toNat) (p := (prZ (12 + i)).toNat) (M := (prZ (12 + i)).toNat * (prZ (12 + i)).toNat) (by omega) (by omega) (by omega) (by omega) (by omega) w
    have psl : psum n.toNat (prZ (12 + i)).toNat % ((prZ (12 + i)).toNat * (prZ (12 + i)).toNat) < (prZ (12 + i)).toNat * (prZ (12 + i)).toNat := Nat.mod_lt _ (by omega)
    rw [Int.natCast_mul, pz, Int.toNat_of_nonneg n0] at ps
    have ivb := ivB_b (n := n) q3.1 q3.2 46
    have iv := Z_51 hC (L_inversesBelow hC n0 hn hp (by omega) 46 0 rfl)
    rw [pz] at iv
    have fb := fi_le (b := svP i) (p := (prZ (12 + i)).toNat) q3.1
    have nd : ¬ (((prZ (12 + i)).toNat : Nat) : Int) ∣ svP i := by rw [pz]; exact ndvd_of pn
    have inv := C_invN (a := svP i) (m := (((prZ (12 + i)).toNat : Nat) : Int)) (y := fi (svP i) (prZ (12 + i)).toNat) s64 (by omega) (by omega) fb.1 fb.2 (fi_one hp nd) w
    rw [pz] at inv fb
    have dvl : psum n.toNat (prZ (12 + i)).toNat % ((prZ (12 + i)).toNat * (prZ (12 + i)).toNat) / (prZ (12 + i)).toNat ≤ psum n.toNat (prZ (12 + i)).toNat % ((prZ (12 + i)).toNat * (prZ (12 + i)).toNat) := Nat.div_le_self _ _
    have eG : ((((psum n.toNat (prZ (12 + i)).toNat % ((prZ (12 + i)).toNat * (prZ (12 + i)).toNat) / (prZ (12 + i)).toNat : Nat) : Int) + ivB n (prZ (12 + i)).toNat 46 - svF n i)) % prZ (12 + i) = svG n (prZ (12 + i)).toNat (svF n i) := by unfold svG; rw [pz]
    have lst := C_least (a := ((psum n.toNat (prZ (12 + i)).toNat % ((prZ (12 + i)).toNat * (prZ (12 + i)).toNat) / (prZ (12 + i)).toNat : Nat) : Int) + ivB n (prZ (12 + i)).toNat 46 - svF n i) (m := prZ (12 + i)) (sv_rng (Nat.le_trans dvl (Nat.le_of_lt (Nat.lt_of_lt_of_le psl pc.2.1))) ivb.1 (by omega) a.1 (by omega)) s64 (by omega) w
    rw [eG] at lst
    have g0 : 0 ≤ svG n (prZ (12 + i)).toNat (svF n i) := by rw [← eG]; exact Int.emod_nonneg _ (by omega)
    have g1 : svG n (prZ (12 + i)).toNat (svF n i) < prZ (12 + i) := by rw [← eG]; exact Int.emod_lt_of_pos _ (by omega)
    have m0 : 0 ≤ svG n (prZ (12 + i)).toNat (svF n i) * fi (svP i) (prZ (12 + i)).toNat := Int.mul_nonneg g0 fb.1
    have m1 : svG n (prZ (12 + i)).toNat (svF n i) * fi (svP i) (prZ (12 + i)).toNat ≤ 200 * 200 := Int.mul_le_mul (by omega) (by omega) fb.1 (by decide)
    have td : Int.tdiv ((psum n.toNat (prZ (12 + i)).toNat % ((prZ (12 + i)).toNat * (prZ (12 + i)).toNat) : Nat) : Int) (prZ (12 + i)) = ((psum n.toNat (prZ (12 + i)).toNat % ((prZ (12 + i)).toNat * (prZ (12 + i)).toNat) / (prZ (12 + i)).toNat : Nat) : Int) := by
      rw [tdN (by omega), Int.natCast_ediv, pz]
    exact Z_48_9 hC ⟨s32, fun q => by omega, fun _ => ⟨fun q => by omega, fun _ => ⟨⟨by omega, by omega⟩, _, _, ps, hC, ⟨by omega, by omega⟩, show prZ (12 + i) ≠ 0 by omega, _, td, _, _, iv, hC, _, _, lst, hC, _, _, inv, hC, ⟨by omega, by omega⟩, show prZ (12 + i) ≠ 0 by omega, _, tmN m0, ih (i + 1) (by omega)⟩⟩⟩
/-! work -/
section W0
variable {c : Nat} {E : eT} {t : Int} {ws : Nat → Int} {me : memT} {w : xW}
theorem told_0 : rE 0 = (nfW 1 0 1, nfA 0 1, nfB 0 1) := by decide +kernel
theorem told_1 : rE 1 = (nfW 0 (-1) 2, nfA (-1) 2, nfB (-1) 2) := by decide +kernel
theorem told_o : ∀ n : Nat, n < 39 → (n % 2 = 1 ∧ ¬ n = 1) → rE n = (nfW 0 0 1, nfA 0 1, nfB 0 1) := by decide +kernel
theorem C_asTold {w : xW} (hC : CS w) {n : Int} (n0 : 0 ≤ n) (hn : n ≤ 38) (h : n = 0 ∨ n % 2 = 1) : xCall 35 [.ref 0, .int (jI n)] w (none, w.set 36 (frac (rE n.toNat).1 (rE n.toNat).2.1 (rE n.toNat).2.2)) := by
  obtain ⟨x, y, z, f⟩ := hC.fr36
  refine Z_35 hC ⟨s32, fun q => ⟨fun q1 => ?_, fun q1 => ?_⟩, fun q => ?_⟩
  · rw [told_o n.toNat (by omega) ⟨by omega, by omega⟩]
    exact ⟨_, C_become f (by decide) s64 s64, (fw hC _ _ _).1, rfl⟩
  · rw [show n.toNat = 1 by omega, told_1]
    exact ⟨_, C_become f (by decide) s64 s64, (fw hC _ _ _).1, rfl⟩
  · rw [show n.toNat = 0 by omega, told_0]
    exact ⟨_, C_become f (by decide) s64 s64, (fw hC _ _ _).1, rfl⟩
theorem C_workRec (h : cst E t ws me w) (ok : okS c E t ws me) {n : Int} (n0 : 0 ≤ n) (hn : n ≤ 38) (hn2 : n ≤ t + 1) (al : allR E n.toNat) : ∃ w', xCall 34 [.ref 0, .int (jI n)] w (none, w') ∧ cst E t ws me w' ∧ xsame [3, 4, 5, 6, 36] w w' ∧ w'[36]? = some (frac (rE n.toNat).1 (rE n.toNat).2.1 (rE n.toNat).2.2) := by
  by_cases n1 : 1 ≤ n
  · obtain ⟨w1, a1, a2, a3, a4⟩ := C_addUp h ok (n := n) (last := n - 1) n0 hn (by omega) (by omega)
    rw [show (n - 1 + 1).toNat = n.toNat by omega, sT_eq n.toNat al, sT_f _ _ (by omega), show (n + 1).toNat = n.toNat + 1 by omega] at a4
    have rc := rec_c n.toNat (by omega) (by omega)
    have rb := rec_b n.toNat (by omega) (by omega)
    rw [Int.toNat_of_nonneg n0] at rc
    revert a4 rc rb
    generalize sTf (pasr (n.toNat + 1)) n.toNat = T
    intro a4 rc rb
    have tl := C_tell a2.1 a4 (by decide) (by decide)
    have f1 := fw a2.1 (T / uA) (nfA (T % uA) uA) (nfB (T % uA) uA)
    obtain ⟨p0, p1, p2, p3⟩ := nf_ok (a := T % uA) (b := uA) (by decide)
    have pb := nfB_le (a := T % uA) (b := uA) (by decide)
    have eU : uA = 7420738134810 := rfl
    have ml : xCall 43 [.ref 36, .long (jL (-1))] (w1.set 36 (frac (T / uA) (nfA (T % uA) uA) (nfB (T % uA) uA))) (none, (w1.set 36 (frac (T / uA) (nfA (T % uA) uA) (nfB (T % uA) uA))).set 36 (frac (mlE (-1) (ttE T)).1 (mlE (-1) (ttE T)).2.1 (mlE (-1) (ttE T)).2.2)) := m36 f1.1 (f := -1) f1.2.1 pb.1 ⟨by omega, by omega⟩ ⟨by omega, by omega⟩
    have f2 := fw f1.1 (mlE (-1) (ttE T)).1 (mlE (-1) (ttE T)).2.1 (mlE (-1) (ttE T)).2.2
    obtain ⟨r0, r1, r2, r3⟩ := nf_ok (a := -1 * nfA (T % uA) uA) (b := nfB (T % uA) uA) pb.1
    have rb2 := nfB_le (a := -1 * nfA (T % uA) uA) (b := nfB (T % uA) uA) pb.1
    have z0 : 0 < (mlE (-1) (ttE T)).2.2 := rb2.1
    have z1 : (mlE (-1) (ttE T)).2.2 ≤ uA := Int.le_trans rb2.2 pb.2
    have y0 : 0 ≤ (mlE (-1) (ttE T)).2.1 := r0
    have y1 : (mlE (-1) (ttE T)).2.1 < (mlE (-1) (ttE T)).2.2 := r1
    revert ml f2 z0 z1 y0 y1 rb rc
    generalize mlE (-1) (ttE T) = e
    intro rc rb ml f2 z0 z1 y0 y1
    have m0 := Int.emod_nonneg e.1 (show n + 1 ≠ 0 by omega)
    have m1 := Int.emod_lt_of_pos e.1 (show 0 < n + 1 by omega)
    have q0 : 0 ≤ e.1 % (n + 1) * e.2.2 := Int.mul_nonneg m0 (by omega)
    have q1 : e.1 % (n + 1) * e.2.2 ≤ 39 * uA := Int.mul_le_mul (by omega) z1 (by omega) (by decide)
    have q2 : 0 ≤ e.2.2 * (n + 1) := Int.mul_nonneg (by omega) (by omega)
    have q3 : e.2.2 * (n + 1) ≤ uA * 39 := Int.mul_le_mul z1 (by omega) (by omega) (by decide)
    have dv := d36 f2.1 (d := n + 1) f2.2.1 z0 (by omega) s64 ⟨by omega, by omega⟩ ⟨by omega, by omega⟩ ⟨by omega, by omega⟩
    have rc' : dvE (n + 1) (e.1, e.2.1, e.2.2) = rE n.toNat := rc
    rw [rc'] at dv
    have f3 := fw f2.1 (rE n.toNat).1 (rE n.toNat).2.1 (rE n.toNat).2.2
    have sm : xsame [3, 4, 5, 6, 36] w _ := (a3.mono (by decide)).trans ((f1.2.2.mono (by decide)).trans ((f2.2.2.mono (by decide)).trans (f3.2.2.mono (by decide))))
    exact ⟨_, Z_34 h.1 ⟨s32, fun _ => ⟨_, a1, a2.1, _, tl, f1.1, _, ml, f2.1, s32, _, dv, f3.1, rfl⟩, fun q => by omega⟩, h.same sm (by decide) f3.1, sm, f3.2.1⟩
  · have f3 := fw h.1 (rE n.toNat).1 (rE n.toNat).2.1 (rE n.toNat).2.2
    exact ⟨_, Z_34 h.1 ⟨s32, fun q => by omega, fun _ => ⟨_, C_asTold h.1 n0 hn (by omega), f3.1, rfl⟩⟩, h.f36 _ _ _, f3.2.2.mono (by decide), f3.2.1⟩
theorem C_tellEntry {w : xW} (hC : CS w) {n : Int} (n0 : 0 ≤ n) (hn : n ≤ 38) (H : trow w 5 6 0 n.toNat) : xCall 14 [.ref 4, .int (jI n), .ref 36] w (none, w.set 36 (frac (rE n.toNat).1 (rE n.toNat).2.1 (rE n.toNat).2.2)) := by
  obtain ⟨fs, h4⟩ := ko_4 hC
  have tp := C_tellPlace hC (j := 0) (by decide) (by decide) (by decide) H
  have r := tri_r (n := n.toNat) (by omega)
  have f := fw hC (tT n.toNat 0).1 (prA (tT n.toNat 0).2 tU) (prB (tT n.toNat 0).2 tU)
  refine E_14 (S_14_0 ⟨_, h4, _, tp, fun q => ?_, fun q => ⟨_, f.2.1, _, rfl, fun v9 e9 => ⟨Nat.zero_lt_succ _, fun w11 e11 => ?_⟩⟩⟩)
  · have q1 : n ≠ 1 := fun z => q (by rw [z]; rfl)
    have r1 : trE n.toNat (tT n.toNat 0) = ((tT n.toNat 0).1, prA (tT n.toNat 0).2 tU, prB (tT n.toNat 0).2 tU) := by unfold trE; rw [if_neg (by omega)]
    rw [← r, r1]
    rfl
  · have q1 : n = 1 := (jI_eq (a := n) (b := 1) s32 s32).mp (Decidable.not_not.mp q)
    have r1 : trE n.toNat (tT n.toNat 0) = ((tT n.toNat 0).1 - 1, prA (tT n.toNat 0).2 tU, prB (tT n.toNat 0).2 tU) := by unfold trE; rw [if_pos (by omega)]
    have ev : v9 = jL ((tT n.toNat 0).1 - 1) := by rw [e9, show (1 : Int64) = jL 1 from rfl, jL_sub]
    rw [← r, r1, e11, ev]
    show (none, _) = (none, List.set (List.set w 36 _) 36 _)
    rw [set_set]
    rfl
theorem L_workTri {n : Int} (n38 : n ≤ 38) : ∀ (k i : Nat) (w : xW), (i : Int) + k = n → CS w → fI w 4 3 2 (n - i) → trow w 5 6 (n - i) i →
    ∃ w', xGo 45 10 [some (.ref 0), some (.int (jI n)), some (.int (jI (i : Int)))] [] w (none, w') ∧ CS w' ∧ xsame [4, 5, 6, 36] w w' ∧ w'[36]? = some (frac (rE n.toNat).1 (rE n.toNat).2.1 (rE n.toNat).2.2) := by
  intro k
  induction k with
  | zero =>
    intro i w hi hC hL H
    have te := C_tellEntry hC (n := n) (by omega) n38 (by rw [show n.toNat = i by omega, show (0 : Int) = n - i by omega]; exact H)
    have f := fw hC (rE n.toNat).1 (rE n.toNat).2.1 (rE n.toNat).2.2
    exact ⟨_, Z_45_10 hC ⟨s32, s32, fun _ => ⟨_, te, f.1, rfl⟩, fun q => by omega⟩, f.1, f.2.2.mono (by decide), f.2.1⟩
  | succ k ih =>
    intro i w hi hC hL H
    obtain ⟨w1, a1, a2, a3, a4, a5⟩ := C_tstep hC (by omega) (by omega) hL H
    have eL : n - (i : Int) - 1 = n - ((i + 1 : Nat) : Int) := by omega
    rw [eL] at a4 a5
    obtain ⟨w2, b1, b2, b3, b4⟩ := ih (i + 1) w1 (by omega) a2 a4 a5
    exact ⟨w2, Z_45_10 hC ⟨s32, s32, fun q => by omega, fun _ => ⟨_, a1, a2, b1⟩⟩, b2, (a3.mono (by decide)).trans b3, b4⟩
theorem C_workTri (h : cst E t ws me w) {n : Int} (n0 : 0 ≤ n) (hn : n ≤ 38) : ∃ w', xCall 45 [.ref 0, .int (jI n)] w (none, w') ∧ cst E t ws me w' ∧ xsame [3, 4, 5, 6, 36] w w' ∧ w'[36]? = some (frac (rE n.toNat).1 (rE n.toNat).2.1 (rE n.toNat).2.2) := by
  obtain ⟨w1, a1, a2, a3, a4, a5⟩ := C_tbegin h.1 (m := n) n0 hn
  have e0 : n = n - ((0 : Nat) : Int) := by omega
  obtain ⟨w2, b1, b2, b3, b4⟩ := L_workTri hn n.toNat 0 w1 (by omega) a2 (by rw [← e0]; exact a4) (by rw [← e0]; exact a5)
  have sm : xsame [3, 4, 5, 6, 36] w w2 := (a3.mono (by decide)).trans (b3.mono (by decide))
  exact ⟨w2, Z_45 h.1 ⟨_, a1, a2, b1⟩, h.same sm (by decide) b2, sm, b4⟩
theorem C_workSieve (h : cst E t ws me w) {n : Int} (n0 : 0 ≤ n) (hn : n ≤ 38) : ∃ w', xCall 46 [.ref 0, .int (jI n)] w (none, w') ∧ cst E t ws me w' ∧ xsame [3, 4, 5, 6, 36] w w' ∧ w'[36]? = some (frac (rE n.toNat).1 (rE n.toNat).2.1 (rE n.toNat).2.2) := by
  by_cases ev : 2 ≤ n ∧ n % 2 = 0
  · obtain ⟨w1, a1, a2, a3, a4⟩ := C_begin h.1 (z := 7420738134810) (by decide) s64
    have sv := Z_48 a2 (L_sieved a2 n0 hn 9 0 rfl)
    obtain ⟨w2, b1, b2, b3, b4⟩ := C_add a2 (f := 1) (x := svW n) (a := 0) (b := 1) a4 (by decide) (by decide) (by decide) ⟨_, (Int.one_mul _).symm⟩ s64
    obtain ⟨w3, d1, d2, d3, d4⟩ := C_addPrimes (f := -1) n0 hn (Or.inr rfl) 46 0 w2 (svW n * uA) rfl b2 (by
      show tot w2 uA (svW n * uA + 0)
      rw [show svW n * uA + 0 = 0 + 1 * (svW n * 7420738134810 + 0 * (7420738134810 / 1)) by rw [show uA = 7420738134810 from rfl]; omega]
      exact b4)
    have tl := C_tell d2 d4 (by decide) (by decide)
    have sc := sv_c n.toNat (by omega) (by omega) (by omega)
    rw [Int.toNat_of_nonneg n0] at sc
    have tl2 : xCall 42 [.ref 3, .ref 36] w3 (none, w3.set 36 (frac (ttE (svW n * uA + apS n (-1) 46)).1 (ttE (svW n * uA + apS n (-1) 46)).2.1 (ttE (svW n * uA + apS n (-1) 46)).2.2)) := tl
    rw [sc] at tl2
    have f := fw d2 (rE n.toNat).1 (rE n.toNat).2.1 (rE n.toNat).2.2
    have sm : xsame [3, 4, 5, 6, 36] w _ := (a3.mono (by decide)).trans ((b3.mono (by decide)).trans ((d3.mono (by decide)).trans (f.2.2.mono (by decide))))
    exact ⟨_, Z_46 h.1 ⟨_, _, _, C_isEven s32 w, h.1, fun _ => ⟨_, a1, a2, _, _, sv, a2, _, b1, b2, _, Z_55 b2 d1, d2, _, tl2, f.1, rfl⟩, fun q => absurd ev q⟩, h.same sm (by decide) f.1, sm, f.2.1⟩
  · have f := fw h.1 (rE n.toNat).1 (rE n.toNat).2.1 (rE n.toNat).2.2
    exact ⟨_, Z_46 h.1 ⟨_, _, _, C_isEven s32 w, h.1, fun q => absurd q ev, fun _ => ⟨_, C_asTold h.1 n0 hn (by omega), f.1, rfl⟩⟩, h.f36 _ _ _, f.2.2.mono (by decide), f.2.1⟩
theorem C_work (h : cst E t ws me w) (ok : okS c E t ws me) {n y : Int} (n0 : 0 ≤ n) (hn : n ≤ 38) (hn2 : n ≤ t + 1) (hy : 0 ≤ y ∧ y ≤ 2) (al : y = 0 → allR E n.toNat) : ∃ w', xCall 33 [.ref 0, .int (jI n), .int (jI y)] w (none, w') ∧ cst E t ws me w' ∧ xsame [3, 4, 5, 6, 36] w w' ∧ w'[36]? = some (frac (rE n.toNat).1 (rE n.toNat).2.1 (rE n.toNat).2.2) := by
  by_cases y0 : y = 0
  · obtain ⟨w1, a1, a2, a3, a4⟩ := C_workRec h ok n0 hn hn2 (al y0)
    exact ⟨w1, Z_33 h.1 ⟨s32, fun q => absurd y0 q, fun _ => ⟨_, a1, a2.1, rfl⟩⟩, a2, a3, a4⟩
  · by_cases y1 : y = 1
    · obtain ⟨w1, a1, a2, a3, a4⟩ := C_workTri h n0 hn
      exact ⟨w1, Z_33 h.1 ⟨s32, fun _ => ⟨fun q => absurd y1 q, fun _ => ⟨_, a1, a2.1, rfl⟩⟩, fun q => absurd q y0⟩, a2, a3, a4⟩
    · obtain ⟨w1, a1, a2, a3, a4⟩ := C_workSieve h n0 hn
      exact ⟨w1, Z_33 h.1 ⟨s32, fun _ => ⟨fun _ => ⟨_, a1, a2.1, rfl⟩, fun q => absurd q y1⟩, fun q => absurd q y0⟩, a2, a3, a4⟩
end W0
