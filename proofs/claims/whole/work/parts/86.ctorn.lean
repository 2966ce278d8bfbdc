/-! the model's constructor: its loops -/
section MC
/-! in how many ways -/
theorem L_188b {n : Nat} (hn : n < 42) {fs : List Value} (h5 : fs[5]? = some (.ref 43)) : ∀ (d k : Nat) (w : xW) (f : Nat → Int64), (k + d = n + 1 ∧ k ≤ 40 ∨ k + d = 40 ∧ k ≤ n + 1) → 1 ≤ k → w[39]? = some (.inr (12, fs)) → w[43]? = some (aL 1680 f) → PC 40 n k f →
    ∃ g, PC 40 (n + 1) 0 g ∧ ∀ r, xGo 188 252 [some (.ref 39), some (.int (jI ((n : Int) + 1))), none, none] [] (w.set 43 (aL 1680 g)) r → xGo 188 270 [some (.ref 39), some (.int (jI (n : Int))), some (.int (jI (k : Int))), none] [] w r := by
  intro d
  induction d with
  | zero =>
    intro k w f hd k1 ha hb hf
    refine ⟨f, PC_next (by omega) hf, fun r K => ?_⟩
    rw [set_id hb] at K
    by_cases q : n < k
    · refine S_188_270 ⟨fun _ v1 e1 => ?_, fun q' => absurd ((jI_lt s32 s32).mpr (by omega)) q'⟩
      rw [e1, show (1 : Int32) = jI 1 from rfl, jI_add]
      exact K
    · refine S_188_270 ⟨fun q' => absurd ((jI_lt s32 s32).mp q') (by omega), fun _ => ⟨fun _ v1 e1 => ?_, fun q' => absurd ((jI_le (a := 40) s32 s32).mpr (by omega)) q'⟩⟩
      rw [e1, show (1 : Int32) = jI 1 from rfl, jI_add]
      exact K
  | succ d ih =>
    intro k w f hd k1 ha hb hf
    by_cases stop : n < k ∨ 40 ≤ k
    · refine ⟨f, PC_next (by omega) hf, fun r K => ?_⟩
      rw [set_id hb] at K
      by_cases q : n < k
      · refine S_188_270 ⟨fun _ v1 e1 => ?_, fun q' => absurd ((jI_lt s32 s32).mpr (by omega)) q'⟩
        rw [e1, show (1 : Int32) = jI 1 from rfl, jI_add]
        exact K
      · refine S_188_270 ⟨fun q' => absurd ((jI_lt s32 s32).mp q') (by omega), fun _ => ⟨fun _ v1 e1 => ?_, fun q' => absurd ((jI_le (a := 40) s32 s32).mpr (by omega)) q'⟩⟩
        rw [e1, show (1 : Int32) = jI 1 from rfl, jI_add]
        exact K
    · have x0 : (40 : Int32) * (jI (n : Int) - (1 : Int32)) + jI (k : Int) = jI ((((n - 1) * 40 + k : Nat)) : Int) := by
        rw [show (1 : Int32) = jI 1 from rfl, show (40 : Int32) = jI 40 from rfl, jI_sub, jI_mul, jI_add]
        congr 1 <;> omega
      have x1 : jI ((((n - 1) * 40 + k : Nat)) : Int) - (1 : Int32) = jI ((((n - 1) * 40 + (k - 1) : Nat)) : Int) := by
        rw [show (1 : Int32) = jI 1 from rfl, jI_sub]
        congr 1 <;> omega
      have x2 : (40 : Int32) * jI (n : Int) + jI (k : Int) = jI (((n * 40 + k : Nat)) : Int) := by
        rw [show (40 : Int32) = jI 40 from rfl, jI_mul, jI_add]
        congr 1 <;> omega
      have r1 := PC_get hf (m := n - 1) (j := k - 1) (by omega) (by omega) (by omega)
      have r2 := PC_get hf (m := n - 1) (j := k) (by omega) (by omega) (by omega)
      obtain ⟨g, g1, g2⟩ := ih (k + 1) (w.set 43 (aL 1680 (vp_updL f (n * 40 + k) (jL ((cb n k : Nat) : Int))))) (vp_updL f (n * 40 + k) (jL ((cb n k : Nat) : Int))) (by omega) (by omega) (by rw [set_ne (by decide)]; exact ha) (set_get hb) (PC_put (by omega) hf)
      rw [List.set_set] at g2
      refine ⟨g, g1, fun r K => S_188_270 ⟨fun q => absurd ((jI_lt s32 s32).mp q) (by omega), fun _ => ⟨fun q => absurd ((jI_le (a := 40) s32 s32).mp q) (by omega), fun _ => ?_⟩⟩⟩
      rw [x0, x1, x2]
      refine ⟨_, ha, _, h5, _, _, hb, jI_in s32 (by omega) (by omega), jI_in s32 (by omega) (by omega), fun v12 e12 => ⟨jI_in s32 (by omega) (by omega), fun w14 e14 v15 e15 => ?_⟩⟩
      rw [jI_nat s32, jI_nat s32, Int.toNat_natCast, Int.toNat_natCast, r1, r2, jL_add] at e12
      have e12 : v12 = jL ((cb n k : Nat) : Int) := by
        rw [e12]
        obtain ⟨n', rfl⟩ : ∃ n', n = n' + 1 := ⟨n - 1, by omega⟩
        obtain ⟨k', rfl⟩ : ∃ k', k = k' + 1 := ⟨k - 1, by omega⟩
        show jL (((cb n' k' : Nat) : Int) + ((cb n' (k' + 1) : Nat) : Int)) = jL ((cb n' k' + cb n' (k' + 1) : Nat) : Int)
        rw [Int.natCast_add]
      rw [jI_nat s32, Int.toNat_natCast, e12] at e14
      rw [show (1 : Int32) = jI 1 from rfl, jI_add] at e15
      subst e15
      have e14 : w14 = w.set 43 (aL 1680 (vp_updL f (n * 40 + k) (jL ((cb n k : Nat) : Int)))) := e14
      subst e14
      exact g2 r K
theorem L_188a {fs : List Value} (h5 : fs[5]? = some (.ref 43)) : ∀ (d n : Nat) (w : xW) (f : Nat → Int64), n + d = 42 → w[39]? = some (.inr (12, fs)) → w[43]? = some (aL 1680 f) → PC 40 n 0 f →
    ∃ g, PC 40 42 0 g ∧ ∀ r, xGo 188 335 [some (.ref 39), some (.int (2 : Int32)), none, none] [] (w.set 43 (aL 1680 g)) r → xGo 188 252 [some (.ref 39), some (.int (jI (n : Int))), none, none] [] w r := by
  intro d
  induction d with
  | zero =>
    intro n w f hd ha hb hf
    have e : n = 42 := by omega
    subst e
    exact ⟨f, hf, fun r K => by rw [set_id hb] at K; exact S_188_252 ⟨fun _ => K, fun q => absurd ((jI_le (a := 42) (b := (42 : Nat)) s32 s32).mpr (by omega)) q⟩⟩
  | succ d ih =>
    intro n w f hd ha hb hf
    have x2 : (40 : Int32) * jI (n : Int) = jI (((n * 40 : Nat)) : Int) := by
      rw [show (40 : Int32) = jI 40 from rfl, jI_mul]
      congr 1 <;> omega
    have p1 := PC_put (k := 0) (by decide) hf
    rw [Nat.add_zero, cb_n0] at p1
    obtain ⟨g, g1, g2⟩ := L_188b (n := n) (by omega) h5 (min n 39) 1 (w.set 43 (aL 1680 (vp_updL f (n * 40) (jL ((1 : Nat) : Int))))) (vp_updL f (n * 40) (jL ((1 : Nat) : Int))) (by omega) (by omega) (by rw [set_ne (by decide)]; exact ha) (set_get hb) p1
    rw [List.set_set] at g2
    obtain ⟨g', h1, h2⟩ := ih (n + 1) (w.set 43 (aL 1680 g)) g (by omega) (by rw [set_ne (by decide)]; exact ha) (set_get hb) g1
    rw [List.set_set] at h2
    refine ⟨g', h1, fun r K => S_188_252 ⟨fun q => absurd ((jI_le (a := 42) s32 s32).mp q) (by omega), fun _ => ⟨_, ha, _, h5, _, _, hb, by rw [x2]; exact jI_in s32 (by omega) (by omega), fun w9 e9 => ?_⟩⟩⟩
    rw [x2, jI_nat s32, Int.toNat_natCast] at e9
    rw [e9]
    exact g2 _ (h2 _ K)
/-! the primes -/
def ipB (p d : Nat) : Bool := (List.range d).all (fun e => decide (e < 2) || p % e != 0)
theorem ipB_s {p d : Nat} : ipB p (d + 1) = (ipB p d && (decide (d < 2) || p % d != 0)) := by
  unfold ipB
  rw [List.range_succ, List.all_append]
  simp
def pcn (p : Nat) : Nat := (xprimes.filter (fun q => decide (q.toInt < (p : Int)))).length
def pcB (p d : Nat) : Bool := !(decide (2 ≤ p ∧ 2 ≤ d ∧ p < d * d ∧ (d = 2 ∨ (d - 1) * (d - 1) ≤ p))) || (if ipB p d = true then decide (pcn p < 46 ∧ xpr (pcn p) = jI (p : Int) ∧ pcn (p + 1) = pcn p + 1) else decide (pcn (p + 1) = pcn p))
theorem pcB_c : ∀ p : Nat, p < 200 → ∀ d : Nat, d < 16 → pcB p d = true := by decide +kernel
theorem pcn_c (p : Nat) (hp : p < 200) (h2 : 2 ≤ p) (d : Nat) (hd : d < 16) (d2 : 2 ≤ d) (hq : p < d * d) (hq2 : d = 2 ∨ (d - 1) * (d - 1) ≤ p) : (ipB p d = true → pcn p < 46 ∧ xpr (pcn p) = jI (p : Int) ∧ pcn (p + 1) = pcn p + 1) ∧ (ipB p d = false → pcn (p + 1) = pcn p) := by
  have a := pcB_c p hp d hd
  unfold pcB at a
  rw [decide_eq_true (⟨h2, d2, hq, hq2⟩ : 2 ≤ p ∧ 2 ≤ d ∧ p < d * d ∧ (d = 2 ∨ (d - 1) * (d - 1) ≤ p)), Bool.not_true, Bool.false_or] at a
  refine ⟨fun z => ?_, fun z => ?_⟩
  · rw [if_pos z] at a
    exact of_decide_eq_true a
  · rw [if_neg (by rw [z]; decide)] at a
    exact of_decide_eq_true a
theorem pcn_b : ∀ p : Nat, p < 201 → pcn p ≤ 46 := by decide +kernel
theorem pcn_2 : pcn 2 = 0 := by decide +kernel
theorem pcn_200 : pcn 200 = 46 := by decide +kernel
/-- the row of primes, found up to p -/
def prF (p : Nat) (f : Nat → Int32) : Prop := ∀ j, j < pcn p → f j = xpr j
theorem L_188d {p : Nat} (hp : p < 200) (h2 : 2 ≤ p) {th tp mm : Int32} {sw sr dr : Int64} {w : xW} {f : Nat → Int32} (h39 : w[39]? = some (mMain th tp (jI (pcn p : Int)) mm sw sr dr)) (h44 : w[44]? = some (aI 46 f)) (hf : prF p f) : ∀ (k d : Nat), d + k = 15 → 2 ≤ d → (d = 2 ∨ (d - 1) * (d - 1) ≤ p) →
    ∃ w' f', xsame [39, 44] w w' ∧ w'[39]? = some (mMain th tp (jI (pcn (p + 1) : Int)) mm sw sr dr) ∧ w'[44]? = some (aI 46 f') ∧ prF (p + 1) f' ∧ ∀ r, xGo 188 335 [some (.ref 39), some (.int (jI ((p : Int) + 1))), none, none] [] w' r → xGo 188 346 [some (.ref 39), some (.int (jI (p : Int))), some (.int (bz (ipB p d = true))), some (.int (jI (d : Int)))] [] w r := by
  have fin : ∀ d : Nat, d ≤ 15 → 2 ≤ d → p < d * d → (d = 2 ∨ (d - 1) * (d - 1) ≤ p) → ∃ w' f', xsame [39, 44] w w' ∧ w'[39]? = some (mMain th tp (jI (pcn (p + 1) : Int)) mm sw sr dr) ∧ w'[44]? = some (aI 46 f') ∧ prF (p + 1) f' ∧ ∀ r, xGo 188 335 [some (.ref 39), some (.int (jI ((p : Int) + 1))), none, none] [] w' r → xGo 188 346 [some (.ref 39), some (.int (jI (p : Int))), some (.int (bz (ipB p d = true))), some (.int (jI (d : Int)))] [] w r := by
    intro d hd d2 hq hq2
    have dd : d * d ≤ 225 := Nat.mul_le_mul hd hd
    have sq : jI (d : Int) * jI (d : Int) = jI ((d * d : Nat) : Int) := by rw [jI_mul, Int.natCast_mul]
    have lt : jI (p : Int) < jI (d : Int) * jI (d : Int) := by rw [sq]; exact (jI_lt s32 s32).mpr (by omega)
    have c := pcn_c p hp h2 d (by omega) d2 hq hq2
    cases hb : ipB p d with
    | false =>
      have c2 := c.2 hb
      refine ⟨w, f, xsame.rf, by rw [c2]; exact h39, h44, fun j hj => hf j (by omega), fun r K => ?_⟩
      refine S_188_346 ⟨fun _ => ⟨fun _ v1 e1 => ?_, fun q => absurd (bz_f (by decide)) q⟩, fun q => absurd lt q⟩
      rw [e1, show (1 : Int32) = jI 1 from rfl, jI_add]
      exact K
    | true =>
      obtain ⟨c1, c3, c4⟩ := c.1 hb
      have ne : w.set 44 (aI 46 (upd f (pcn p) (jI (p : Int)))) = w.set 44 (aI 46 (upd f (pcn p) (jI (p : Int)))) := rfl
      have g39 : (w.set 44 (aI 46 (upd f (pcn p) (jI (p : Int)))))[39]? = some (mMain th tp (jI (pcn p : Int)) mm sw sr dr) := by rw [set_ne (by decide)]; exact h39
      have g44 : (w.set 44 (aI 46 (upd f (pcn p) (jI (p : Int)))))[44]? = some (aI 46 (upd f (pcn p) (jI (p : Int)))) := set_get h44
      refine ⟨(w.set 44 (aI 46 (upd f (pcn p) (jI (p : Int))))).set 39 (mMain th tp (jI (pcn (p + 1) : Int)) mm sw sr dr), upd f (pcn p) (jI (p : Int)), (xsame.set (by decide)).trans (xsame.set (by decide)), set_get g39, by rw [set_ne (by decide)]; exact g44, fun j hj => ?_, fun r K => ?_⟩
      · by_cases z : j = pcn p
        · rw [z, upd_eq, c3]
        · rw [upd_neq z]
          exact hf j (by omega)
      · have one : ¬ bz (true = true) = 0 := by decide
        refine S_188_346 ⟨fun _ => ⟨fun q => absurd q one, fun _ => ⟨_, h39, _, rfl, _, rfl, _, _, h44, ixin c1 (by decide), fun w12 e12 => ?_⟩⟩, fun q => absurd lt q⟩
        rw [ixn (by omega)] at e12
        have e12 : w12 = w.set 44 (aI 46 (upd f (pcn p) (jI (p : Int)))) := e12
        subst e12
        refine ⟨_, g39, _, rfl, fun v17 e17 => ⟨Nat.le_of_ble_eq_true rfl, fun w19 e19 v20 e20 => ?_⟩⟩
        rw [show (1 : Int32) = jI 1 from rfl, jI_add, show (pcn p : Int) + 1 = (pcn (p + 1) : Int) by omega] at e17
        rw [show (1 : Int32) = jI 1 from rfl, jI_add] at e20
        subst e17 e20
        rw [e19]
        exact K
  intro k
  induction k with
  | zero =>
    intro d hd d2 hq
    have e : d = 15 := by omega
    subst e
    exact fin 15 (by omega) (by omega) (by omega) hq
  | succ k ih =>
    intro d hd d2 hq
    by_cases q : p < d * d
    · exact fin d (by omega) d2 q hq
    · obtain ⟨w', f', a1, a2, a3, a4, a5⟩ := ih (d + 1) (by omega) (by omega) (Or.inr (by rw [Nat.add_sub_cancel]; omega))
      refine ⟨w', f', a1, a2, a3, a4, fun r K => ?_⟩
      have g := a5 r K
      have dd : d * d ≤ 225 := Nat.mul_le_mul (show d ≤ 15 by omega) (show d ≤ 15 by omega)
      have sq : jI (d : Int) * jI (d : Int) = jI ((d * d : Nat) : Int) := by rw [jI_mul, Int.natCast_mul]
      have nlt : ¬ jI (p : Int) < jI (d : Int) * jI (d : Int) := by rw [sq]; exact fun z => q (by have := (jI_lt (a := (p : Int)) (b := ((d * d : Nat) : Int)) s32 s32).mp z; omega)
      have one : ¬ bz (true = true) = 0 := by decide
      have zer : bz (false = true) = 0 := by decide
      rw [ipB_s, show ((d + 1 : Nat) : Int) = (d : Int) + 1 by omega, decide_eq_false (show ¬ d < 2 by omega), Bool.false_or] at g
      refine S_188_346 ⟨fun q' => absurd q' nlt, fun _ => ?_⟩
      cases hb : ipB p d with
      | false =>
        rw [hb, Bool.false_and] at g
        refine ⟨fun _ v21 e21 => ?_, fun q' => absurd zer q'⟩
        rw [e21, show (1 : Int32) = jI 1 from rfl, jI_add]
        exact g
      | true =>
        rw [hb, Bool.true_and] at g
        have rm : irem (jI (p : Int)) (jI (d : Int)) = jI ((p % d : Nat) : Int) := by rw [jI_remN s32 (by omega) s32, Int.natCast_emod]
        have ml := Nat.mod_lt p (show 0 < d by omega)
        refine ⟨fun q' => absurd q' one, fun _ => ⟨ne_I _ 0 s32 z32 (by omega), ?_⟩⟩
        rw [rm]
        refine ⟨fun q' v23 e23 => ?_, fun q' v24 e24 => ?_⟩
        · have z : p % d = 0 := by have := (jI_eq (a := ((p % d : Nat) : Int)) (b := 0) s32 z32).mp q'; omega
          rw [e23, show (1 : Int32) = jI 1 from rfl, jI_add]
          rw [z] at g
          exact g
        · have z : p % d ≠ 0 := fun y => q' (by rw [y]; rfl)
          rw [e24, show (1 : Int32) = jI 1 from rfl, jI_add]
          rw [show (p % d != 0) = true by simpa using z] at g
          exact g
theorem L_188c {th tp mm : Int32} {sw sr dr : Int64} : ∀ (k p : Nat) (w : xW) (f : Nat → Int32), p + k = 200 → 2 ≤ p → w[39]? = some (mMain th tp (jI (pcn p : Int)) mm sw sr dr) → w[44]? = some (aI 46 f) → prF p f →
    ∃ w' f', xsame [39, 44] w w' ∧ w'[39]? = some (mMain th tp 46 mm sw sr dr) ∧ w'[44]? = some (aI 46 f') ∧ (∀ j, j < 46 → f' j = xpr j) ∧ ∀ r, (∃ w5, xCall 189 [.ref 40, .int (0 : Int32), .long (1 : Int64), .long (0 : Int64), .long (1 : Int64)] w' (none, w5) ∧ xGo 188 418 [some (.ref 39), some (.int (1 : Int32)), none, none] [] w5 r) → xGo 188 335 [some (.ref 39), some (.int (jI (p : Int))), none, none] [] w r := by
  intro k
  induction k with
  | zero =>
    intro p w f hk h2 h39 h44 hf
    have e : p = 200 := by omega
    subst e
    rw [pcn_200] at h39
    refine ⟨w, f, xsame.rf, h39, h44, fun j hj => hf j (by rw [pcn_200]; exact hj), fun r K => S_188_335 ⟨fun _ => ?_, fun q => absurd ((jI_le (a := 200) (b := (200 : Nat)) s32 s32).mpr (by omega)) q⟩⟩
    obtain ⟨w5, k1, k2⟩ := K
    exact ⟨_, h39, _, rfl, _, k1, k2⟩
  | succ k ih =>
    intro p w f hk h2 h39 h44 hf
    obtain ⟨w1, f1, a1, a2, a3, a4, a5⟩ := L_188d (p := p) (by omega) h2 h39 h44 hf 13 2 (by omega) (by omega) (Or.inl rfl)
    obtain ⟨w2, f2, b1, b2, b3, b4, b5⟩ := ih (p + 1) w1 f1 (by omega) (by omega) a2 a3 a4
    refine ⟨w2, f2, a1.trans b1, b2, b3, b4, fun r K => S_188_335 ⟨fun q => absurd ((jI_le (a := 200) s32 s32).mp q) (by omega), fun _ => ?_⟩⟩
    have g := a5 r (b5 r K)
    rw [show ipB p 2 = true by unfold ipB; rfl] at g
    exact g
end MC
