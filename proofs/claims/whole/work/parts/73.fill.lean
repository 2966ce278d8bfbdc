/-! the class's fills modulo a prime -/
theorem cb_gt : ∀ n k : Nat, n < k → cb n k = 0
  | 0, 0, h => by omega
  | 0, k + 1, _ => rfl
  | n + 1, 0, h => by omega
  | n + 1, k + 1, h => by
    show cb n k + cb n (k + 1) = 0
    rw [cb_gt n k (by omega), cb_gt n (k + 1) (by omega)]
theorem cb_n0 : ∀ n : Nat, cb n 0 = 1
  | 0 => rfl
  | n + 1 => rfl
theorem cb_nn : ∀ n : Nat, cb n n = 1
  | 0 => rfl
  | n + 1 => by
    show cb n n + cb n (n + 1) = 1
    rw [cb_nn n, cb_gt n (n + 1) (by omega)]
theorem cb_n1 : ∀ n : Nat, cb (n + 1) n = n + 1
  | 0 => rfl
  | n + 1 => by
    show cb (n + 1) n + cb (n + 1) (n + 1) = n + 1 + 1
    rw [cb_n1 n, cb_nn]
def cSm (N : Nat) (f : Nat → Int) : Nat → Int
  | 0 => 0
  | k + 1 => cSm N f k + (cb N k : Nat) * f k
theorem cSm_add (N : Nat) (f g : Nat → Int) : ∀ K : Nat, cSm N (fun k => f k + g k) K = cSm N f K + cSm N g K
  | 0 => rfl
  | K + 1 => by
    show cSm N (fun k => f k + g k) K + (cb N K : Nat) * (f K + g K) = cSm N f K + (cb N K : Nat) * f K + (cSm N g K + (cb N K : Nat) * g K)
    rw [cSm_add N f g K, Int.mul_add]
    omega
theorem bin_s (N : Nat) (a : Int) : ∀ K : Nat, cSm (N + 1) (fun k => a ^ k) (K + 1) = (a + 1) * cSm N (fun k => a ^ k) K + (cb N K : Nat) * a ^ K
  | 0 => by
    show 0 + (cb (N + 1) 0 : Nat) * a ^ 0 = (a + 1) * 0 + (cb N 0 : Nat) * a ^ 0
    rw [cb_n0, cb_n0]
    omega
  | K + 1 => by
    have ih := bin_s N a K
    show cSm (N + 1) (fun k => a ^ k) (K + 1) + ((cb N K + cb N (K + 1) : Nat) : Int) * a ^ (K + 1) = (a + 1) * (cSm N (fun k => a ^ k) K + (cb N K : Nat) * a ^ K) + (cb N (K + 1) : Nat) * a ^ (K + 1)
    have e : (a + 1) * ((cb N K : Nat) * a ^ K) = (cb N K : Nat) * a ^ (K + 1) + (cb N K : Nat) * a ^ K := by
      rw [Int.add_mul, Int.one_mul, Int.pow_succ]
      congr 1
      ac_rfl
    rw [ih, Int.natCast_add, Int.add_mul ((cb N K : Nat) : Int), Int.mul_add (a + 1), e]
    omega
theorem bin_e (a : Int) : ∀ N : Nat, cSm N (fun k => a ^ k) (N + 1) = (a + 1) ^ N
  | 0 => by
    show 0 + (cb 0 0 : Nat) * a ^ 0 = (a + 1) ^ 0
    rw [Int.pow_zero, Int.pow_zero]; rfl
  | N + 1 => by
    have z : ((0 : Nat) : Int) * a ^ (N + 1) = 0 := by simp
    rw [bin_s, bin_e a N, cb_gt N (N + 1) (by omega), z, Int.add_zero, Int.mul_comm, ← Int.pow_succ]
theorem tele (N : Nat) : ∀ a : Nat, cSm N (fun k => ((psum k (a + 1) : Nat) : Int)) N = ((a : Int) + 1) ^ N - 1
  | 0 => by
    have z : ∀ K, cSm N (fun k => ((psum k (0 + 1) : Nat) : Int)) K = 0 := by
      intro K
      induction K with
      | zero => rfl
      | succ K ih =>
        show cSm N (fun k => ((psum k (0 + 1) : Nat) : Int)) K + (cb N K : Nat) * ((psum K 1 : Nat) : Int) = 0
        rw [ih, psum_1]; simp
    rw [z]
    show (0 : Int) = (0 + 1) ^ N - 1
    rw [Int.zero_add, Int.one_pow]; rfl
  | a + 1 => by
    have ih := tele N a
    have e : (fun k => ((psum k (a + 1 + 1) : Nat) : Int)) = (fun k => ((psum k (a + 1) : Nat) : Int) + ((a : Int) + 1) ^ k) := by
      funext k
      rw [psum_s (by omega), Int.natCast_add, Int.natCast_pow]
      rfl
    have b := bin_e ((a : Int) + 1) N
    have b2 : cSm N (fun k => ((a : Int) + 1) ^ k) (N + 1) = cSm N (fun k => ((a : Int) + 1) ^ k) N + (cb N N : Nat) * ((a : Int) + 1) ^ N := rfl
    have b3 : cSm N (fun k => ((a : Int) + 1) ^ k) N + ((a : Int) + 1) ^ N = ((a : Int) + 1 + 1) ^ N := by
      rw [← b, b2, cb_nn]
      omega
    rw [e, cSm_add]
    show cSm N (fun k => ((psum k (a + 1) : Nat) : Int)) N + cSm N (fun k => ((a : Int) + 1) ^ k) N = ((a : Int) + 1 + 1) ^ N - 1
    rw [ih, ← b3]
    omega
theorem psK {p k : Nat} (hp : p ∈ prN) (k1 : 1 ≤ k) (k2 : k + 2 ≤ p) : psum k p % (p * p) = p * bwS p k := by
  have a := pck_c p hp
  unfold pck at a
  rw [List.all_eq_true] at a
  have b := a k (List.mem_range.mpr (by omega))
  rw [Bool.or_eq_true] at b
  rcases b with z | z
  · have := eq_of_beq z; omega
  · exact eq_of_beq z
theorem cSm_cg {N : Nat} {M : Int} {f g : Nat → Int} : ∀ K : Nat, (∀ k, k < K → cg M (f k) (g k)) → cg M (cSm N f K) (cSm N g K)
  | 0, _ => cg.rf
  | K + 1, h => (cSm_cg K (fun k hk => h k (by omega))).add (cg.rf.mul (h K (by omega)))
theorem cSm_mul {N : Nat} {f : Nat → Int} (c : Int) : ∀ K : Nat, cSm N (fun k => c * f k) K = c * cSm N f K
  | 0 => by show (0 : Int) = c * 0; omega
  | K + 1 => by
    show cSm N (fun k => c * f k) K + (cb N K : Nat) * (c * f K) = c * (cSm N f K + (cb N K : Nat) * f K)
    rw [cSm_mul c K, Int.mul_add]
    congr 1
    ac_rfl
theorem cSm_0 {N : Nat} {f g : Nat → Int} (h : f 0 = g 0 + 1) (h2 : ∀ k, 1 ≤ k → f k = g k) : ∀ K : Nat, cSm N f (K + 1) = cSm N g (K + 1) + 1
  | 0 => by
    show 0 + (cb N 0 : Nat) * f 0 = 0 + (cb N 0 : Nat) * g 0 + 1
    rw [cb_n0, h]
    omega
  | K + 1 => by
    have ih := cSm_0 (N := N) h h2 K
    show cSm N f (K + 1) + (cb N (K + 1) : Nat) * f (K + 1) = cSm N g (K + 1) + (cb N (K + 1) : Nat) * g (K + 1) + 1
    rw [ih, h2 (K + 1) (by omega)]
    omega
theorem psum_00 : ∀ a : Nat, psum 0 (a + 1) = a
  | 0 => rfl
  | a + 1 => by rw [psum_s (by omega), psum_00 a, Nat.pow_zero]
/-- the recurrence holds of them -/
theorem rec_pp {p n : Nat} (hp : p ∈ prN) (n1 : 1 ≤ n) (n2 : n + 2 ≤ p) : (p : Int) ∣ cSm (n + 1) (fun k => ((bwS p k : Nat) : Int)) (n + 1) := by
  have pb := prN_b p hp
  have t := tele (n + 1) (p - 1)
  rw [show p - 1 + 1 = p by omega, show ((p - 1 : Nat) : Int) + 1 = (p : Int) by omega] at t
  have e0 : cSm (n + 1) (fun k => if k = 0 then (p : Int) else ((psum k p : Nat) : Int)) (n + 1) = cSm (n + 1) (fun k => ((psum k p : Nat) : Int)) (n + 1) + 1 := by
    refine cSm_0 ?_ (fun k hk => if_neg (by omega)) n
    have z := psum_00 (p - 1)
    rw [show p - 1 + 1 = p by omega] at z
    rw [if_pos rfl, z]
    omega
  have c1 : cg ((p : Int) * p) (cSm (n + 1) (fun k => (p : Int) * ((bwS p k : Nat) : Int)) (n + 1)) (cSm (n + 1) (fun k => if k = 0 then (p : Int) else ((psum k p : Nat) : Int)) (n + 1)) := by
    refine cSm_cg (n + 1) (fun k hk => ?_)
    show cg ((p : Int) * p) ((p : Int) * ((bwS p k : Nat) : Int)) (if k = 0 then (p : Int) else ((psum k p : Nat) : Int))
    by_cases k0 : k = 0
    · rw [if_pos k0, k0, show bwS p 0 = 1 from if_pos rfl]
      exact cg_eq (Int.mul_one _)
    · rw [if_neg k0]
      have a := psK hp (k := k) (by omega) (by omega)
      have b : cg ((p * p : Nat) : Int) ((psum k p % (p * p) : Nat) : Int) ((psum k p : Nat) : Int) := cg_nmod
      rw [a, Int.natCast_mul, Int.natCast_mul] at b
      exact b
  rw [cSm_mul, e0, t] at c1
  have d : (p : Int) * p ∣ (p : Int) ^ (n + 1) - 1 + 1 := by
    rw [show (p : Int) ^ (n + 1) - 1 + 1 = (p : Int) ^ (n + 1) by omega, show n + 1 = (n - 1) + 1 + 1 by omega, Int.pow_succ, Int.pow_succ, Int.mul_assoc]
    exact Int.dvd_mul_left ..
  have d2 : (p : Int) * p ∣ (p : Int) * cSm (n + 1) (fun k => ((bwS p k : Nat) : Int)) (n + 1) := by
    have s := Int.dvd_add c1 d
    rw [show (p : Int) * cSm (n + 1) (fun k => ((bwS p k : Nat) : Int)) (n + 1) - ((p : Int) ^ (n + 1) - 1 + 1) + ((p : Int) ^ (n + 1) - 1 + 1) = (p : Int) * cSm (n + 1) (fun k => ((bwS p k : Nat) : Int)) (n + 1) by omega] at s
    exact s
  obtain ⟨u, hu⟩ := d2
  refine ⟨u, ?_⟩
  rw [Int.mul_assoc] at hu
  exact Int.eq_of_mul_eq_mul_left (by omega) hu
theorem bw_lt {p n : Nat} (hp : p ∈ prN) : bwS p n < p := by
  have pb := prN_b p hp
  unfold bwS
  split
  · omega
  · split
    · omega
    · split
      · omega
      · exact Nat.div_lt_of_lt_mul (Nat.mod_lt _ (Nat.mul_pos (by omega) (by omega)))
def xBm (p n : Nat) : Nat → Int
  | 0 => 0
  | k + 1 => xBm p n k + ((cb (n + 1) k % p : Nat) : Int) * ((bwS p k : Nat) : Int)
theorem xBm_cg (p n : Nat) : ∀ k : Nat, cg p (xBm p n k) (cSm (n + 1) (fun k => ((bwS p k : Nat) : Int)) k)
  | 0 => cg.rf
  | k + 1 => (xBm_cg p n k).add (cg_nmod.mul cg.rf)
theorem xBm_b {p n : Nat} (hp : p ∈ prN) : ∀ k : Nat, 0 ≤ xBm p n k ∧ xBm p n k ≤ 40000 * k
  | 0 => ⟨Int.le_refl 0, Int.le_refl 0⟩
  | k + 1 => by
    have pb := prN_b p hp
    have ih := xBm_b (n := n) hp k
    have a := Nat.mod_lt (cb (n + 1) k) (show 0 < p by omega)
    have b := bw_lt (n := k) hp
    have m := mul_b (a := ((cb (n + 1) k % p : Nat) : Int)) (A := 200) (b := ((bwS p k : Nat) : Int)) (B := 200) (by omega) (by omega) (by omega) (by omega)
    show 0 ≤ xBm p n k + _ ∧ xBm p n k + _ ≤ 40000 * ((k + 1 : Nat) : Int)
    exact ⟨by omega, by omega⟩
/-- one more of them from those below -/
theorem rec_one {p n : Nat} {y T : Int} (hp : p ∈ prN) (n1 : 1 ≤ n) (n2 : n + 2 ≤ p) (hy : cg p (y * ((n : Int) + 1)) 1) (hT : cg p T (-(xBm p n n))) : T * y % p = ((bwS p n : Nat) : Int) := by
  have pb := prN_b p hp
  have r := rec_pp hp n1 n2
  have e : cSm (n + 1) (fun k => ((bwS p k : Nat) : Int)) (n + 1) = cSm (n + 1) (fun k => ((bwS p k : Nat) : Int)) n + ((n : Int) + 1) * ((bwS p n : Nat) : Int) := by
    show _ + ((cb (n + 1) n : Nat) : Int) * _ = _
    rw [cb_n1]; rfl
  rw [e] at r
  have c1 : cg p (((n : Int) + 1) * ((bwS p n : Nat) : Int)) (-(xBm p n n)) := by
    have x := xBm_cg p n n
    obtain ⟨u, hu⟩ := x
    obtain ⟨v, hv⟩ := r
    refine ⟨u + v, ?_⟩
    rw [Int.mul_add, ← hu, ← hv]
    omega
  have c2 : cg p (T * y) (((bwS p n : Nat) : Int) * 1) := by
    have a := (hT.tr c1.sm).mul (cg.rf (m := (p : Int)) (x := y))
    have s : ((n : Int) + 1) * ((bwS p n : Nat) : Int) * y = ((bwS p n : Nat) : Int) * (y * ((n : Int) + 1)) := by ac_rfl
    rw [s] at a
    exact a.tr (cg.rf.mul hy)
  rw [Int.mul_one] at c2
  have bl := bw_lt (n := n) hp
  rw [c2.eq]
  exact Int.emod_eq_of_lt (by omega) (by omega)
/-! rows filled -/
theorem L_6g {a n : Nat} {v : Int} (n200 : n ≤ 200) : ∀ (k i : Nat) (w : xW), i + k = n → CS w → lenL w a n → (∀ j, j < i → rL w a j v) →
    ∃ w', xGo 6 6 [some (.ref a), some (.long (jL v)), none, some (.int (jI (i : Int))), some (.int (jI (n : Int)))] [] w (none, w') ∧ CS w' ∧ xsame [a] w w' ∧ ∀ j, j < n → rL w' a j v := by
  intro k
  induction k with
  | zero =>
    intro i w hi hC hl H
    exact ⟨w, S_6_6 ⟨fun _ => rfl, fun q => absurd ((jI_le s32 s32).mpr (by omega)) q⟩, hC, xsame.rf, fun j hj => H j (by omega)⟩
  | succ k ih =>
    intro i w hi hC hl H
    obtain ⟨f, hf⟩ := hl
    have sm : xsame [a] w (pL w a i (jL v)) := sm_pL (by simp)
    obtain ⟨w', g1, g2, g3, g4⟩ := ih (i + 1) (pL w a i (jL v)) (by omega) hC.putL (lenL.put ⟨f, hf⟩) (fun j hj => by
      by_cases z : j = i
      · rw [z]; exact (lenL.has ⟨f, hf⟩ (by omega) (by omega)).put
      · exact (H j (by omega)).put z)
    refine ⟨w', S_6_6 ⟨fun q => absurd q (fun z => by have := (jI_le (a := (n : Int)) (b := (i : Int)) s32 s32).mp z; omega), fun _ => ⟨_, _, hf, ixin (by omega) (by omega), fun w5 e5 v6 e6 => ?_⟩⟩, g2, sm.trans g3, g4⟩
    rw [ixn (by omega)] at e5
    rw [e5, e6, show (1 : Int32) = jI 1 from rfl, jI_add]
    have e : List.set w a (aL n (vp_updL f i (jL v))) = pL w a i (jL v) := (pL_of hf).symm
    show xGo 6 6 _ [] (List.set w a (aL n (vp_updL f i (jL v)))) (none, w')
    rw [e]
    exact g1
theorem C_fillG {w : xW} (hC : CS w) {a n : Nat} {v : Int} (n200 : n ≤ 200) (hl : lenL w a n) : ∃ w', xCall 6 [.ref a, .long (jL v)] w (none, w') ∧ CS w' ∧ xsame [a] w w' ∧ ∀ j, j < n → rL w' a j v := by
  obtain ⟨w', g1, g2, g3, g4⟩ := L_6g (v := v) n200 n 0 w (by omega) hC hl (fun j hj => by omega)
  obtain ⟨f, hf⟩ := hl
  exact ⟨w', E_6 (S_6_0 ⟨_, _, hf, fun v4 e4 => by rw [e4, jI_len]; exact g1⟩), g2, g3, g4⟩
section F7
theorem L_124a {p n : Nat} (hp : p ∈ prN) (n2 : n + 2 ≤ p) : ∀ (j : Nat) (w : xW), j ≤ n + 1 → CS w → (∀ i, i < 200 → rL w 30 i (((if j < i then cb (n + 1) i else cb n i) % p : Nat) : Int)) →
    ∃ w', CS w' ∧ xsame [30] w w' ∧ (∀ i, i < 200 → rL w' 30 i ((cb (n + 1) i % p : Nat) : Int)) ∧ ∀ s, xGo 124 93 [some (.ref 28), some (.int (jI (p : Int))), some (.int (jI (n : Int))), some (.long (jL 0)), none, some (.int (jI 0))] [] w' s → xGo 124 53 [some (.ref 28), some (.int (jI (p : Int))), some (.int (jI (n : Int))), some (.int (jI (j : Int))), none, none] [] w s := by
  have pb := prN_b p hp
  intro j
  induction j with
  | zero =>
    intro w hj hC H
    refine ⟨w, hC, xsame.rf, fun i hi => ?_, fun s g => Z_124_53 hC ⟨s32, fun _ => g, fun q => by omega⟩⟩
    have := H i hi
    by_cases z : i = 0
    · rw [z] at this ⊢
      rw [if_neg (by omega), cb_n0] at this
      rw [cb_n0]; exact this
    · rw [if_pos (by omega)] at this; exact this
  | succ j ih =>
    intro w hj hC H
    have a := H (j + 1) (by omega)
    have b := H j (by omega)
    rw [if_neg (by omega)] at a b
    have la := Nat.mod_lt (cb n (j + 1)) (show 0 < p by omega)
    have lb := Nat.mod_lt (cb n j) (show 0 < p by omega)
    have e : (((cb n (j + 1) % p : Nat) : Int) + ((cb n j % p : Nat) : Int)) % (p : Int) = ((cb (n + 1) (j + 1) % p : Nat) : Int) := by
      show _ = (((cb n j + cb n (j + 1)) % p : Nat) : Int)
      rw [Nat.add_comm (cb n j), Nat.add_mod, Int.natCast_emod ((cb n (j + 1) % p + cb n j % p)), Int.natCast_add]
    have sm : xsame [30] w (pL w 30 (j + 1) (jL ((cb (n + 1) (j + 1) % p : Nat) : Int))) := sm_pL (by decide)
    obtain ⟨w', g1, g2, g3, g4⟩ := ih (pL w 30 (j + 1) (jL ((cb (n + 1) (j + 1) % p : Nat) : Int))) (by omega) hC.putL (fun i hi => by
      by_cases z : i = j + 1
      · rw [z, if_pos (by omega)]; exact ((kl_30 hC).has (by decide) (by omega)).put
      · have := H i hi
        by_cases y : j < i
        · rw [if_pos y]; rw [if_pos (by omega)] at this; exact this.put z
        · rw [if_neg y]; rw [if_neg (by omega)] at this; exact this.put z)
    refine ⟨w', g1, sm.trans g2, g3, fun s g => Z_124_53 hC ⟨s32, fun q => by omega, fun _ => ⟨by omega, _, a, by omega, _, (by rw [show (((j + 1 : Nat) : Int) - 1).toNat = j by omega]; exact b), s32, ⟨by omega, by omega⟩, by omega, _, tmN (by omega), ⟨by omega, by omega⟩, fun w15 e15 _ => ?_⟩⟩⟩
    rw [e15, e, show (((j + 1 : Nat) : Int) - 1) = (j : Int) by omega]
    exact g4 s g
theorem L_124b {w : xW} (hC : CS w) {p n : Nat} {r : Option Value × xW} (hp : p ∈ prN) (n1 : 1 ≤ n) (n2 : n + 2 ≤ p) (H30 : ∀ i, i < 200 → rL w 30 i ((cb (n + 1) i % p : Nat) : Int)) (H29 : ∀ i, i < n → rL w 29 i ((bwS p i : Nat) : Int)) (K : xGo 124 31 [some (.ref 28), some (.int (jI (p : Int))), some (.int (jI ((n : Int) + 1))), none, none, none] [] (pL w 29 n (jL ((bwS p n : Nat) : Int))) r) : ∀ (f k : Nat), k + f = n →
    xGo 124 93 [some (.ref 28), some (.int (jI (p : Int))), some (.int (jI (n : Int))), some (.long (jL (xBm p n k))), none, some (.int (jI (k : Int)))] [] w r := by
  have pb := prN_b p hp
  intro f
  induction f with
  | zero =>
    intro k hk
    have e : k = n := by omega
    subst e
    have xb := xBm_b (n := k) hp k
    have m0 := Int.emod_nonneg (xBm p k k) (show (p : Int) ≠ 0 by omega)
    have m1 := Int.emod_lt_of_pos (xBm p k k) (show 0 < (p : Int) by omega)
    have nd : ¬ (p : Int) ∣ ((k : Int) + 1) := fun z => by have := Int.le_of_dvd (by omega) z; omega
    have fb := fi_le (b := (k : Int) + 1) (p := p) (by omega)
    have inv := C_invN (a := (k : Int) + 1) (m := (p : Int)) (y := fi ((k : Int) + 1) p) s64 (by omega) (by omega) fb.1 fb.2 (fi_one hp nd) w
    have mm := mul_b (a := (p : Int) - xBm p k k % p) (A := 200) (b := fi ((k : Int) + 1) p) (B := 200) (by omega) (by omega) fb.1 (by omega)
    have one := rec_one (T := (p : Int) - xBm p k k % p) hp n1 n2 (fi_one hp nd) (by
      have a : cg p ((p : Int) - xBm p k k % p) (0 - xBm p k k) := cg.sub ⟨1, by omega⟩ cg.mod
      rw [Int.zero_sub] at a
      exact a)
    refine Z_124_93 hC ⟨s32, s32, fun _ => ⟨s32, ⟨by omega, by omega⟩, by omega, _, tmN xb.1, s32, _, _, inv, hC, ⟨by omega, by omega⟩, by omega, _, tmN mm.1, ⟨by omega, by omega⟩, fun w19 e19 _ => ?_⟩, fun q => by omega⟩
    rw [e19, one]
    exact K
  | succ f ih =>
    intro k hk
    exact Z_124_93 hC ⟨s32, s32, fun q => by omega, fun _ => ⟨by omega, _, H30 k (by omega), by omega, _, H29 k (by omega), ih (k + 1) (by omega)⟩⟩
theorem L_124 {p : Nat} (hp : p ∈ prN) : ∀ (f n : Nat) (w : xW), n + f + 1 = p → 1 ≤ n → CS w → (∀ i, i < 200 → rL w 30 i ((cb n i % p : Nat) : Int)) → (∀ i, i < n → rL w 29 i ((bwS p i : Nat) : Int)) →
    ∃ w', xGo 124 31 [some (.ref 28), some (.int (jI (p : Int))), some (.int (jI (n : Int))), none, none, none] [] w (none, w') ∧ CS w' ∧ xsame [29, 30] w w' ∧ ∀ i, i + 2 ≤ p → rL w' 29 i ((bwS p i : Nat) : Int) := by
  have pb := prN_b p hp
  intro f
  induction f with
  | zero =>
    intro n w hn n1 hC H30 H29
    exact ⟨w, Z_124_31 hC ⟨s32, s32, fun _ => rfl, fun q => by omega⟩, hC, xsame.rf, fun i hi => H29 i (by omega)⟩
  | succ f ih =>
    intro n w hn n1 hC H30 H29
    obtain ⟨w1, a1, a2, a3, a4⟩ := L_124a hp (n := n) (by omega) (n + 1) w (by omega) hC (fun i hi => by
      by_cases y : n + 1 < i
      · rw [if_pos y]
        have := H30 i hi
        rw [cb_gt n i (by omega)] at this
        rw [cb_gt (n + 1) i y]; exact this
      · rw [if_neg y]; exact H30 i hi)
    have sm : xsame [29] w1 (pL w1 29 n (jL ((bwS p n : Nat) : Int))) := sm_pL (by decide)
    obtain ⟨w2, b1, b2, b3, b4⟩ := ih (n + 1) (pL w1 29 n (jL ((bwS p n : Nat) : Int))) (by omega) (by omega) a1.putL (fun i hi => (a3 i hi).sm sm (by decide)) (fun i hi => by
      by_cases z : i = n
      · rw [z]; exact ((kl_29 a1).has (by decide) (by omega)).put
      · exact ((H29 i (by omega)).sm a2 (by decide)).put z)
    have g := L_124b a1 hp n1 (by omega) a3 (fun i hi => (H29 i hi).sm a2 (by decide)) b1 n 0 (by omega)
    exact ⟨w2, Z_124_31 hC ⟨s32, s32, fun q => by omega, fun _ => ⟨s32, fun q => by omega, fun _ => a4 _ g⟩⟩, b2, (a2.mono (by decide)).trans ((sm.mono (by decide)).trans b3), b4⟩
theorem C_fillRec {w : xW} (hC : CS w) {p : Nat} (hp : p ∈ prN) : ∃ w', xCall 124 [.ref 28, .int (jI (p : Int))] w (none, w') ∧ CS w' ∧ xsame [29, 30] w w' ∧ ∀ i, i + 2 ≤ p → rL w' 29 i ((bwS p i : Nat) : Int) := by
  have pb := prN_b p hp
  obtain ⟨w1, a1, a2, a3, a4⟩ := C_fillG hC (a := 30) (n := 200) (v := 0) (by decide) (kl_30 hC)
  have s1 : xsame [30] w1 (pL w1 30 0 (jL 1)) := sm_pL (by decide)
  have s2 : xsame [30] (pL w1 30 0 (jL 1)) (pL (pL w1 30 0 (jL 1)) 30 1 (jL 1)) := sm_pL (by decide)
  have s3 : xsame [29] (pL (pL w1 30 0 (jL 1)) 30 1 (jL 1)) (pL (pL (pL w1 30 0 (jL 1)) 30 1 (jL 1)) 29 0 (jL 1)) := sm_pL (by decide)
  have m1 : 1 % p = 1 := Nat.mod_eq_of_lt (by omega)
  obtain ⟨w2, b1, b2, b3, b4⟩ := L_124 hp (p - 2) 1 (pL (pL (pL w1 30 0 (jL 1)) 30 1 (jL 1)) 29 0 (jL 1)) (by omega) (by decide) a2.putL.putL.putL (fun i hi => by
    by_cases i0 : i = 0
    · rw [i0]
      show rL _ 30 0 ((1 % p : Nat) : Int)
      rw [m1]
      exact ((((kl_30 a2).has (by decide) (by decide)).put).put (by decide)).sm s3 (by decide)
    · by_cases i1 : i = 1
      · rw [i1]
        show rL _ 30 1 ((1 % p : Nat) : Int)
        rw [m1]
        exact (((kl_30 a2.putL).has (by decide) (by decide)).put).sm s3 (by decide)
      · rw [cb_gt 1 i (by omega), Nat.zero_mod]
        exact (((a4 i hi).put i0).put i1).sm s3 (by decide)) (fun i hi => by
    rw [show i = 0 by omega]
    show rL _ 29 0 1
    exact ((kl_29 a2.putL.putL).has (by decide) (by decide)).put)
  exact ⟨w2, Z_124 hC ⟨_, a1, a2, fun w5 e5 _ w8 e8 _ w11 e11 _ => by rw [e11, e8, e5]; exact b1⟩, b2, (a3.mono (by decide)).trans ((s1.mono (by decide)).trans ((s2.mono (by decide)).trans ((s3.mono (by decide)).trans b3))), b4⟩
end F7
