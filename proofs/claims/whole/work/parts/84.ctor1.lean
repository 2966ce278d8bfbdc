/-! the class's constructor, whole -/
theorem HC0_C {gc g1 g2 g3 : Nat → Int64} : CT (HC0 gc g1 g2 g3) := by
  refine ⟨by show 39 < xP; decide, fun i hi => ?_⟩
  match i, hi with
  | 0, _ => exact ⟨_, rfl, -1, rfl⟩
  | 1, _ => exact ⟨_, rfl, rfl⟩
  | 2, _ => exact ⟨_, rfl, _, rfl⟩
  | 3, _ => exact ⟨_, rfl, _, _, _, rfl⟩
  | 4, _ => exact ⟨_, rfl, _, rfl⟩
  | 5, _ => exact ⟨_, rfl, _, rfl⟩
  | 6, _ => exact ⟨_, rfl, _, rfl⟩
  | 7, _ => exact ⟨_, rfl, rfl⟩
  | 8, _ => exact ⟨_, rfl, _, rfl⟩
  | 9, _ => exact ⟨_, rfl, _, rfl⟩
  | 10, _ => exact ⟨_, rfl, _, rfl⟩
  | 11, _ => exact ⟨_, rfl, 0, 0, 1, rfl⟩
  | 12, _ => exact ⟨_, rfl, rfl⟩
  | 13, _ => exact ⟨_, rfl, _, rfl⟩
  | 14, _ => exact ⟨_, rfl, _, rfl⟩
  | 15, _ => exact ⟨_, rfl, _, rfl⟩
  | 16, _ => exact ⟨_, rfl, 0, 0, 1, rfl⟩
  | 17, _ => exact ⟨_, rfl, rfl⟩
  | 18, _ => exact ⟨_, rfl, _, rfl⟩
  | 19, _ => exact ⟨_, rfl, _, rfl⟩
  | 20, _ => exact ⟨_, rfl, _, rfl⟩
  | 21, _ => exact ⟨_, rfl, 0, 0, 1, rfl⟩
  | 22, _ => exact ⟨_, rfl, _, rfl⟩
  | 23, _ => exact ⟨_, rfl, rfl⟩
  | 24, _ => exact ⟨_, rfl, _, rfl⟩
  | 25, _ => exact ⟨_, rfl, _, rfl⟩
  | 26, _ => exact ⟨_, rfl, _, rfl⟩
  | 27, _ => exact ⟨_, rfl, _, rfl⟩
  | 28, _ => exact ⟨_, rfl, _, _, rfl⟩
  | 29, _ => exact ⟨_, rfl, _, rfl⟩
  | 30, _ => exact ⟨_, rfl, _, rfl⟩
  | 31, _ => exact ⟨_, rfl, _, _, rfl⟩
  | 32, _ => exact ⟨_, rfl, _, rfl⟩
  | 33, _ => exact ⟨_, rfl, _, rfl⟩
  | 34, _ => exact ⟨_, rfl, _, rfl⟩
  | 35, _ => exact ⟨_, rfl, _, rfl⟩
  | 36, _ => exact ⟨_, rfl, 0, 0, 1, rfl⟩
  | 37, _ => exact ⟨_, rfl, _, rfl⟩
  | 38, _ => exact ⟨_, rfl, _, rfl⟩
  | n + 39, h => exact absurd h (by omega)
def s7 (w : xW) (n : Nat) (x y z : Int) : xW := pL (pL (pL w 8 n (jL x)) 9 n (jL y)) 10 n (jL z)
theorem s7_sm {w : xW} {n : Nat} {x y z : Int} : xsame [8, 9, 10] w (s7 w n x y z) := ((sm_pL (by decide)).trans (sm_pL (by decide))).trans (sm_pL (by decide))
theorem s7_C {w : xW} (hC : CT w) {n : Nat} {x y z : Int} : CT (s7 w n x y z) := hC.putL.putL.putL
theorem s7_get {w : xW} (hC : CT w) {n : Nat} {x y z : Int} (hn : n < 39) : rL (s7 w n x y z) 8 n x ∧ rL (s7 w n x y z) 9 n y ∧ rL (s7 w n x y z) 10 n z := by
  have C1 : CT (pL w 8 n (jL x)) := hC.putL
  have C2 : CT (pL (pL w 8 n (jL x)) 9 n (jL y)) := C1.putL
  have s2 : xsame [9] (pL w 8 n (jL x)) (pL (pL w 8 n (jL x)) 9 n (jL y)) := sm_pL (by decide)
  have s3 : xsame [10] (pL (pL w 8 n (jL x)) 9 n (jL y)) (s7 w n x y z) := sm_pL (by decide)
  exact ⟨((((kl_8t hC).has (by decide) hn).put).sm s2 (by decide)).sm s3 (by decide), (((kl_9t C1).has (by decide) hn).put).sm s3 (by decide), ((kl_10t C2).has (by decide) hn).put⟩
theorem s7_ne {w : xW} {n k : Nat} {x y z a b d : Int} (hk : k ≠ n) (h1 : rL w 8 k a) (h2 : rL w 9 k b) (h3 : rL w 10 k d) : rL (s7 w n x y z) 8 k a ∧ rL (s7 w n x y z) 9 k b ∧ rL (s7 w n x y z) 10 k d := by
  have s1 : xsame [8] w (pL w 8 n (jL x)) := sm_pL (by decide)
  have s2 : xsame [9] (pL w 8 n (jL x)) (pL (pL w 8 n (jL x)) 9 n (jL y)) := sm_pL (by decide)
  have s3 : xsame [10] (pL (pL w 8 n (jL x)) 9 n (jL y)) (s7 w n x y z) := sm_pL (by decide)
  exact ⟨((h1.put hk).sm s2 (by decide)).sm s3 (by decide), ((h2.sm s1 (by decide)).put hk).sm s3 (by decide), ((h3.sm s1 (by decide)).sm s2 (by decide)).put hk⟩
theorem C_store7 {w : xW} (hC : CT w) {n x y z : Int} (n0 : 0 ≤ n) (n1 : n < 39) (hf : w[36]? = some (frac x y z)) : xCall 20 [.ref 7, .int (jI n), .ref 36] w (none, s7 w n.toNat x y z) := by
  have s1 : xsame [8] w (pL w 8 n.toNat (jL x)) := sm_pL (by decide)
  have s2 : xsame [9] (pL w 8 n.toNat (jL x)) (pL (pL w 8 n.toNat (jL x)) 9 n.toNat (jL y)) := sm_pL (by decide)
  have g1 := s1.get (i := 36) (by decide) hf
  have g2 := s2.get (i := 36) (by decide) g1
  refine Z_20t hC (Or.inl rfl) ⟨_, _, _, C_fits s32 w, hC, fun d => absurd ⟨n0, n1⟩ d, fun _ => ⟨_, ⟨_, hf, rfl⟩, ⟨n0, n1⟩, fun w10 e10 _ => ?_⟩⟩
  subst e10
  refine ⟨_, ⟨_, g1, rfl⟩, fun w15 e15 _ => ?_⟩
  subst e15
  refine ⟨_, ⟨_, g2, rfl⟩, fun w20 e20 _ => ?_⟩
  subst e20
  rfl
theorem CT.m0 {w : xW} (hC : CT w) : ∃ fs, w[0]? = some (.inr (0, fs)) ∧ fs[2]? = some (.ref 4) ∧ fs[3]? = some (.ref 7) ∧ fs[13]? = some (.ref 36) := by
  obtain ⟨c, h1, h2⟩ := hC.2 0 (by decide)
  obtain ⟨t, rfl⟩ := h2
  exact ⟨_, h1, rfl, rfl, rfl⟩
theorem CT.m4 {w : xW} (hC : CT w) : ∃ fs, w[4]? = some (.inr (3, fs)) := by
  obtain ⟨c, h1, h2⟩ := hC.2 4 (by decide)
  obtain ⟨t, rfl⟩ := h2
  exact ⟨_, h1⟩
theorem CT.m7 {w : xW} (hC : CT w) : ∃ fs, w[7]? = some (.inr (4, fs)) := by
  obtain ⟨c, h1, h2⟩ := hC.2 7 (by decide)
  exact ⟨_, h1.trans (congrArg some h2)⟩
theorem L_0 : ∀ (d n : Nat) (w : xW), n + d = 39 → CT w → fI w 4 3 2 (38 - (n : Int)) → trow w 5 6 (38 - (n : Int)) n → (∀ k, k < n → rL w 8 k (rW k) ∧ rL w 9 k (rA k) ∧ rL w 10 k (rB k)) →
    ∃ w', xGo 0 192 [some (.ref 0), some (.int (jI (n : Int)))] [] w (none, w') ∧ CT w' ∧ xsame [4, 5, 6, 8, 9, 10, 36] w w' ∧ ∀ k, k < 39 → rL w' 8 k (rW k) ∧ rL w' 9 k (rA k) ∧ rL w' 10 k (rB k) := by
  intro d
  induction d with
  | zero =>
    intro n w hd hC hL H R
    have e : n = 39 := by omega
    subst e
    exact ⟨w, S_0_192 ⟨fun _ => rfl, fun q => absurd ((jI_lt (a := 38) (b := (39 : Nat)) s32 s32).mpr (by omega)) q⟩, hC, xsame.rf, R⟩
  | succ d ih =>
    intro n w hd hC hL H R
    have te := C_tellEntryt hC (n := (n : Int)) (by omega) (by omega) (fun k hk => by
      rw [show (n : Int).toNat = n from Int.toNat_natCast n]
      exact H k (by omega))
    rw [show (n : Int).toNat = n from Int.toNat_natCast n] at te
    have f := fwt hC (rE n).1 (rE n).2.1 (rE n).2.2
    have st := C_store7 f.1 (n := (n : Int)) (by omega) (by omega) f.2.1
    rw [show (n : Int).toNat = n from Int.toNat_natCast n] at st
    have s1 : xsame [36] w _ := f.2.2
    have s2 := s7_sm (w := w.set 36 (frac (rE n).1 (rE n).2.1 (rE n).2.2)) (n := n) (x := (rE n).1) (y := (rE n).2.1) (z := (rE n).2.2)
    have C2 := s7_C f.1 (n := n) (x := (rE n).1) (y := (rE n).2.1) (z := (rE n).2.2)
    obtain ⟨w3, a1, a2, a3, a4, a5⟩ := C_tstept C2 (L := 38 - (n : Int)) (r := n) (by omega) (by omega) ((hL.sm s1 (by decide)).sm s2 (by decide)) ((H.sm s1 (by decide) (by decide)).sm s2 (by decide) (by decide))
    rw [show (38 : Int) - (n : Int) - 1 = 38 - ((n + 1 : Nat) : Int) by omega] at a4 a5
    obtain ⟨w4, b1, b2, b3, b4⟩ := ih (n + 1) w3 (by omega) a2 a4 a5 (fun k hk => by
      by_cases z : k = n
      · subst z
        have g := s7_get f.1 (n := k) (x := (rE k).1) (y := (rE k).2.1) (z := (rE k).2.2) (by omega)
        exact ⟨g.1.sm a3 (by decide), g.2.1.sm a3 (by decide), g.2.2.sm a3 (by decide)⟩
      · have q := R k (by omega)
        have g := s7_ne (n := n) (x := (rE n).1) (y := (rE n).2.1) (z := (rE n).2.2) z (q.1.sm s1 (by decide)) (q.2.1.sm s1 (by decide)) (q.2.2.sm s1 (by decide))
        exact ⟨g.1.sm a3 (by decide), g.2.1.sm a3 (by decide), g.2.2.sm a3 (by decide)⟩)
    obtain ⟨fs1, h1, h12, h13, h113⟩ := hC.m0
    obtain ⟨fs7, h7⟩ := hC.m4
    obtain ⟨fs11, h11, h112, h1113, h1213⟩ := f.1.m0
    obtain ⟨fs17, h17⟩ := f.1.m7
    obtain ⟨fs21, h21, h212, h213, h2113⟩ := C2.m0
    obtain ⟨fs25, h25⟩ := C2.m4
    refine ⟨w4, S_0_192 ⟨fun q => absurd ((jI_lt (a := 38) s32 s32).mp q) (by omega), fun _ => ⟨_, h1, _, h12, _, h113, _, h7, _, te, _, h11, _, h1113, _, h1213, _, h17, _, st, _, h21, _, h212, _, h25, _, a1, fun v29 e29 => ?_⟩⟩, b2, (s1.mono (by decide)).trans ((s2.mono (by decide)).trans ((a3.mono (by decide)).trans b3)), b4⟩
    rw [e29, show (1 : Int32) = jI 1 from rfl, jI_add]
    exact b1
/-- what the class's constructor lays -/
theorem K_class : ∃ (w : xW) (gc : Nat → Int64), xCall 0 [.ref 0] [.inr (0, xvs.getD 0 [])] (none, w) ∧ PC 42 42 0 gc ∧ CT w ∧ w.length = 39 ∧ (∃ g1 g2 g3, xsame [4, 5, 6, 8, 9, 10, 36] (HC0 gc g1 g2 g3) w) ∧ ∀ k, k < 39 → rL w 8 k (rW k) ∧ rL w 9 k (rA k) ∧ rL w 10 k (rB k) := by
  have B := fun gc g1 g2 g3 => C_tbegint (HC0_C (gc := gc) (g1 := g1) (g2 := g2) (g3 := g3)) (m := 38) (by decide) (by decide)
  have L := fun gc g1 g2 g3 => L_0 39 0 ((B gc g1 g2 g3).choose) (by decide) (B gc g1 g2 g3).choose_spec.2.1 (B gc g1 g2 g3).choose_spec.2.2.2.1 (B gc g1 g2 g3).choose_spec.2.2.2.2 (fun k hk => by omega)
  obtain ⟨gc, g1, g2, g3, pc, h⟩ := K_0 (W := fun gc g1 g2 g3 => (B gc g1 g2 g3).choose) (r := fun gc g1 g2 g3 => (none, (L gc g1 g2 g3).choose)) (fun gc g1 g2 g3 _ => (B gc g1 g2 g3).choose_spec.1) (fun gc g1 g2 g3 _ => (L gc g1 g2 g3).choose_spec.1)
  have sm := ((B gc g1 g2 g3).choose_spec.2.2.1.mono (S' := [4, 5, 6, 8, 9, 10, 36]) (by decide)).trans (L gc g1 g2 g3).choose_spec.2.2.1
  exact ⟨_, gc, h, pc, (L gc g1 g2 g3).choose_spec.2.1, sm.1, ⟨g1, g2, g3, sm⟩, (L gc g1 g2 g3).choose_spec.2.2.2⟩
