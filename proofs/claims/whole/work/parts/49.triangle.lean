/-! the triangle; the call triangleAt -/
def tU : Int := 5342931457063200
def tS (k : Nat) (a b : Int × Int) : Int × Int := (((k : Int) + 1) * (a.1 - b.1) + (((k : Int) + 1) * (a.2 - b.2)) / tU, (((k : Int) + 1) * (a.2 - b.2)) % tU)
def tT : Nat → Nat → Int × Int
  | 0, k => (if k = 0 then 1 else 0, if k = 0 then 0 else tU / ((k : Int) + 1))
  | r + 1, k => tS k (tT r k) (tT r (k + 1))
theorem tT_b : ∀ r k : Nat, 0 ≤ (tT r k).2 ∧ (tT r k).2 < tU
  | 0, k => by
    show 0 ≤ (if k = 0 then 0 else tU / ((k : Int) + 1)) ∧ (if k = 0 then 0 else tU / ((k : Int) + 1)) < tU
    split
    · exact ⟨by decide, by decide⟩
    · exact ⟨Int.ediv_nonneg (by decide) (by omega), Int.ediv_lt_of_lt_mul (by omega) (by unfold tU; omega)⟩
  | r + 1, k => ⟨Int.emod_nonneg _ (by decide), Int.emod_lt_of_pos _ (by decide)⟩
theorem tmul_b {k d : Int} (k0 : 0 ≤ k) (k1 : k ≤ 39) (h1 : -5342931457063200 ≤ d) (h2 : d ≤ 5342931457063200) : -208374326825464800 ≤ k * d ∧ k * d ≤ 208374326825464800 := by
  have a : k * d ≤ k * 5342931457063200 := Int.mul_le_mul_of_nonneg_left h2 k0
  have b : k * -5342931457063200 ≤ k * d := Int.mul_le_mul_of_nonneg_left h1 k0
  omega
theorem tpart_b (r k : Nat) (hk : k ≤ 38) : in64 (((k : Int) + 1) * ((tT r k).2 - (tT r (k + 1)).2)) := by
  have a := tT_b r k
  have b := tT_b r (k + 1)
  unfold tU at a b
  have m := tmul_b (k := (k : Int) + 1) (d := (tT r k).2 - (tT r (k + 1)).2) (by omega) (by omega) (by omega) (by omega)
  exact ⟨by omega, by omega⟩
def trow (w : xW) (a b : Nat) (L : Int) (r : Nat) : Prop := ∀ k : Nat, (k : Int) ≤ L → rL w a k (tT r k).1 ∧ rL w b k (tT r k).2
theorem trow.sm {w w' : xW} {a b r : Nat} {L : Int} {S : List Nat} (h : trow w a b L r) (hs : xsame S w w') (ha : a ∉ S) (hb : b ∉ S) : trow w' a b L r := fun k hk => ⟨(h k hk).1.sm hs ha, (h k hk).2.sm hs hb⟩
theorem p56 {w : xW} (hC : CS w) {i : Nat} (hi : i < 39) (x y : Int) : rL (pL (pL w 5 i (jL x)) 6 i (jL y)) 5 i x ∧ rL (pL (pL w 5 i (jL x)) 6 i (jL y)) 6 i y ∧ xsame [5, 6] w (pL (pL w 5 i (jL x)) 6 i (jL y)) ∧ ∀ j u v, j ≠ i → rL w 5 j u → rL w 6 j v → rL (pL (pL w 5 i (jL x)) 6 i (jL y)) 5 j u ∧ rL (pL (pL w 5 i (jL x)) 6 i (jL y)) 6 j v := by
  have s1 : xsame [5] w (pL w 5 i (jL x)) := sm_pL (by decide)
  have s2 : xsame [6] (pL w 5 i (jL x)) (pL (pL w 5 i (jL x)) 6 i (jL y)) := sm_pL (by decide)
  refine ⟨(((kl_5 hC).has (by decide) hi).put).sm s2 (by decide), ((kl_6 hC.putL).has (by decide) hi).put, (s1.mono (by decide)).trans (s2.mono (by decide)), fun j u v hj h1 h2 => ⟨(h1.put hj).sm s2 (by decide), (h2.sm s1 (by decide)).put hj⟩⟩
theorem L_tbegin {m : Int} (m38 : m ≤ 38) : ∀ (k i : Nat) (w : xW), (i : Int) + k = m + 1 → CS w → fI w 4 3 2 m → trow w 5 6 ((i : Int) - 1) 0 →
    ∃ w', xGo 12 12 [some (.ref 4), some (.int (jI m)), some (.int (jI (i : Int)))] [] w (none, w') ∧ CS w' ∧ xsame [5, 6] w w' ∧ trow w' 5 6 m 0 := by
  intro k
  induction k with
  | zero =>
    intro i w hi hC hL H
    refine ⟨w, Z_12_12 hC ⟨_, hL, s32, s32, fun _ => rfl, fun q => by omega⟩, hC, xsame.rf, ?_⟩
    rw [show m = (i : Int) - 1 by omega]; exact H
  | succ k ih =>
    intro i w hi hC hL H
    have e : tT 0 i = (if i = 0 then 1 else 0, if i = 0 then 0 else tU / ((i : Int) + 1)) := rfl
    have pp := p56 hC (i := i) (by omega) (tT 0 i).1 (tT 0 i).2
    obtain ⟨w2, b1, b2, b3, b4⟩ := ih (i + 1) (pL (pL w 5 i (jL (tT 0 i).1)) 6 i (jL (tT 0 i).2)) (by omega) hC.putL.putL (hL.sm pp.2.2.1 (by decide)) (fun j hj => by
      by_cases q : j = i
      · rw [q]; exact ⟨pp.1, pp.2.1⟩
      · have r := H j (by omega)
        exact pp.2.2.2 j _ _ q r.1 r.2)
    refine ⟨w2, Z_12_12 hC ⟨_, hL, s32, s32, fun q => by omega, fun _ => ⟨fun z => ⟨⟨by omega, by omega⟩, fun w7 e7 _ => ⟨fun _ => ⟨s32, by omega, _, tdN (by decide), fun w14 e14 _ => ?_⟩, fun q => absurd q z⟩⟩, fun z => ⟨⟨by omega, by omega⟩, fun w21 e21 _ => ⟨fun q => absurd z q, fun _ w31 e31 _ => ?_⟩⟩⟩⟩, b2, pp.2.2.1.trans b3, b4⟩
    · have z2 : ¬ i = 0 := by omega
      rw [e, if_neg z2, if_neg z2] at b1
      rw [e14, e7]; exact b1
    · have z2 : i = 0 := by omega
      rw [e, if_pos z2, if_pos z2] at b1
      rw [e31, e21]; exact b1
theorem C_tbegin {w : xW} (hC : CS w) {m : Int} (m0 : 0 ≤ m) (m38 : m ≤ 38) : ∃ w', xCall 12 [.ref 4, .int (jI m)] w (none, w') ∧ CS w' ∧ xsame [4, 5, 6] w w' ∧ fI w' 4 3 2 m ∧ trow w' 5 6 m 0 := by
  have mi := C_minI (a := m) (b := 38) s32 s32 w
  rw [if_neg (by omega)] at mi
  have h1 : CS (pF w 4 2 (.int (jI m))) := ks_4_2 hC
  have f1 : fI (pF w 4 2 (.int (jI m))) 4 3 2 m := (kf_4_2 hC).putI
  obtain ⟨w2, b1, b2, b3, b4⟩ := L_tbegin m38 (m + 1).toNat 0 _ (by omega) h1 f1 (fun j hj => by omega)
  refine ⟨w2, Z_12 hC ⟨_, _, mi, hC, fun w6 e6 _ => ?_⟩, b2, (sm_pF (by decide)).trans (b3.mono (by decide)), f1.sm b3 (by decide), b4⟩
  rw [e6]; exact b1
theorem L_tstep {L : Int} {r : Nat} (L38 : L ≤ 38) : ∀ (k i : Nat) (w : xW), (i : Int) + k = L → CS w → fI w 4 3 2 L → (∀ j : Nat, j < i → rL w 5 j (tT (r + 1) j).1 ∧ rL w 6 j (tT (r + 1) j).2) → (∀ j : Nat, i ≤ j → (j : Int) ≤ L → rL w 5 j (tT r j).1 ∧ rL w 6 j (tT r j).2) →
    ∃ w', xGo 22 2 [some (.ref 4), some (.int (jI (i : Int))), none, none] [] w (none, w') ∧ CS w' ∧ xsame [4, 5, 6] w w' ∧ fI w' 4 3 2 (L - 1) ∧ trow w' 5 6 (L - 1) (r + 1) := by
  intro k
  induction k with
  | zero =>
    intro i w hi hC hL H1 H2
    have s : xsame [4] w (pF w 4 2 (.int (jI (L - 1)))) := sm_pF (by decide)
    refine ⟨_, Z_22_2 hC ⟨_, hL, s32, s32, fun _ w6 e6 _ => by rw [e6], fun q => by omega⟩, ks_4_2 hC, s.mono (by decide), (kf_4_2 hC).putI, fun j hj => ?_⟩
    have a := H1 j (by omega)
    exact ⟨a.1.sm s (by decide), a.2.sm s (by decide)⟩
  | succ k ih =>
    intro i w hi hC hL H1 H2
    have e : tT (r + 1) i = tS i (tT r i) (tT r (i + 1)) := rfl
    have a := H2 i (by omega) (by omega)
    have b := H2 (i + 1) (by omega) (by omega)
    have p64 := tpart_b r i (by omega)
    have pp := p56 hC (i := i) (by omega) (tT (r + 1) i).1 (tT (r + 1) i).2
    obtain ⟨w2, b1, b2, b3, b4, b5⟩ := ih (i + 1) (pL (pL w 5 i (jL (tT (r + 1) i).1)) 6 i (jL (tT (r + 1) i).2)) (by omega) hC.putL.putL (hL.sm pp.2.2.1 (by decide)) (fun j hj => by
      by_cases q : j = i
      · rw [q]; exact ⟨pp.1, pp.2.1⟩
      · have r := H1 j (by omega)
        exact pp.2.2.2 j _ _ q r.1 r.2) (fun j h1 h2 => by
      have r := H2 j (by omega) h2
      exact pp.2.2.2 j _ _ (by omega) r.1 r.2)
    refine ⟨w2, Z_22_2 hC ⟨_, hL, s32, s32, fun q => by omega, fun _ => ⟨s32, fun q => by omega, fun _ => ⟨by omega, _, a.2, by omega, _, b.2, by omega, _, a.1, by omega, _, b.1, _, _, C_floorDiv p64 (b := 5342931457063200) s64 (by decide) w, hC, ⟨by omega, by omega⟩, fun w30 e30 h30 => ⟨_, _, C_floorMod p64 (b := 5342931457063200) s64 (by decide) w30, h30, fun w37 e37 _ => ?_⟩⟩⟩⟩, b2, (pp.2.2.1.mono (by decide)).trans b3, b4, b5⟩
    rw [e37, e30]; exact b1
theorem C_tstep {w : xW} (hC : CS w) {L : Int} {r : Nat} (L0 : 0 ≤ L) (L38 : L ≤ 38) (hL : fI w 4 3 2 L) (H : trow w 5 6 L r) : ∃ w', xCall 22 [.ref 4] w (none, w') ∧ CS w' ∧ xsame [4, 5, 6] w w' ∧ fI w' 4 3 2 (L - 1) ∧ trow w' 5 6 (L - 1) (r + 1) := by
  obtain ⟨w2, b1, b2, b3, b4, b5⟩ := L_tstep L38 (r := r) L.toNat 0 w (by omega) hC hL (fun j hj => by omega) (fun j _ hj => H j hj)
  exact ⟨w2, Z_22 hC b1, b2, b3, b4, b5⟩
theorem C_tellPlace {w : xW} (hC : CS w) {L j : Int} {r : Nat} (j0 : 0 ≤ j) (jL' : j ≤ L) (L38 : L ≤ 38) (H : trow w 5 6 L r) : xCall 15 [.ref 4, .int (jI j), .ref 36] w (none, w.set 36 (frac (tT r j.toNat).1 (prA (tT r j.toNat).2 tU) (prB (tT r j.toNat).2 tU))) := by
  obtain ⟨x, y, z, f36⟩ := hC.fr36
  have tb := tT_b r j.toNat
  have a := H j.toNat (by omega)
  have bc := C_become (nw := (tT r j.toNat).1) (na := (tT r j.toNat).2) (nb := tU) f36 (by decide) (by unfold tU at tb; exact s64) ⟨by decide, by decide⟩
  obtain ⟨e1, e2⟩ := nf_pr tb.1 tb.2
  have e0 : nfW (tT r j.toNat).1 (tT r j.toNat).2 tU = (tT r j.toNat).1 := by unfold nfW; rw [Int.ediv_eq_zero_of_lt tb.1 tb.2, Int.add_zero]
  rw [e0, e1, e2] at bc
  exact Z_15 hC ⟨s32, fun q => by omega, fun _ => ⟨fun q => by omega, fun _ => ⟨j0, _, a.1, j0, _, a.2, ko_36 hC, _, bc, (fw hC _ _ _).1, rfl⟩⟩⟩
section T9
variable {c : Nat} {E : eT} {t : Int} {ws : Nat → Int} {me : memT} {w : xW}
def taS (n j x : Int) : Int := if (0 ≤ n ∧ 0 ≤ j ∧ n + j ≤ 38) ∧ 0 ≤ x ∧ x ≤ 2 then frT (tT n.toNat j.toNat).1 (prA (tT n.toNat j.toNat).2 tU) (prB (tT n.toNat j.toNat).2 tU) x else lNO
theorem L_118 {n j x : Int} (n0 : 0 ≤ n) (j0 : 0 ≤ j) (nj : n + j ≤ 38) (hx : 0 ≤ x ∧ x ≤ 2) : ∀ (k i : Nat) (w : xW), (i : Int) + k = n → CS w → fI w 4 3 2 (n + j - i) → trow w 5 6 (n + j - i) i →
    ∃ w', xGo 118 46 [some (.ref 0), some (.int (jI n)), some (.int (jI j)), some (.int (jI x)), some (.int (jI (i : Int)))] [] w (some (.long (jL (taS n j x))), w') ∧ CS w' ∧ xsame [4, 5, 6, 36] w w' := by
  intro k
  induction k with
  | zero =>
    intro i w hi hC hL H
    have tp := C_tellPlace hC (j := j) j0 (by omega) (by omega) H
    have f := fw hC (tT i j.toNat).1 (prA (tT i j.toNat).2 tU) (prB (tT i j.toNat).2 tU)
    have td := C_told (i := x) hx f.2.1
    rw [show taS n j x = frT (tT i j.toNat).1 (prA (tT i j.toNat).2 tU) (prB (tT i j.toNat).2 tU) x by unfold taS; rw [if_pos ⟨⟨n0, j0, nj⟩, hx⟩, show n.toNat = i by omega]]
    exact ⟨_, Z_118_46 hC ⟨s32, s32, fun _ => ⟨_, tp, f.1, _, _, td, f.1, rfl⟩, fun q => by omega⟩, f.1, f.2.2.mono (by decide)⟩
  | succ k ih =>
    intro i w hi hC hL H
    obtain ⟨w1, a1, a2, a3, a4, a5⟩ := C_tstep hC (by omega) (by omega) hL H
    have eL : n + j - (i : Int) - 1 = n + j - ((i + 1 : Nat) : Int) := by omega
    rw [eL] at a4 a5
    obtain ⟨w2, b1, b2, b3⟩ := ih (i + 1) w1 (by omega) a2 a4 a5
    exact ⟨w2, Z_118_46 hC ⟨s32, s32, fun q => by omega, fun _ => ⟨_, a1, a2, b1⟩⟩, b2, (a3.mono (by decide)).trans b3⟩
theorem c_triangleAt {n j x : Int} (hn : in32 n) (hj : in32 j) (hx : in32 x) : cAns E t ws me E t ws me 118 [.int (jI n), .int (jI j), .int (jI x)] (.long (jL (taS n j x))) := by
  intro w h
  by_cases a : (0 ≤ n ∧ 0 ≤ j ∧ n + j ≤ 38) ∧ 0 ≤ x ∧ x ≤ 2
  · obtain ⟨w1, a1, a2, a3, a4, a5⟩ := C_tbegin h.1 (m := n + j) (by omega) a.1.2.2
    have e0 : n + j = n + j - ((0 : Nat) : Int) := by omega
    rw [e0] at a4 a5
    obtain ⟨w2, b1, b2, b3⟩ := L_118 a.1.1 a.1.2.1 a.1.2.2 a.2 n.toNat 0 w1 (by omega) a2 a4 a5
    have sm : xsame [4, 5, 6, 36] w w2 := (a3.mono (by decide)).trans b3
    exact ⟨w2, Z_118 h.1 ⟨hn, fun q => by omega, fun _ => ⟨hj, fun q => by omega, fun _ => ⟨fun q => by omega, fun _ => ⟨s32, fun q => by omega, fun _ => ⟨_, _, _, C_isPart hx w, h.1, fun _ => ⟨_, a1, a2, b1⟩, fun q => absurd a.2 q⟩⟩⟩⟩⟩, h.same sm (by decide) b2, sm.mono (by decide)⟩
  · rw [show taS n j x = lNO from if_neg a]
    exact ⟨w, Z_118 h.1 ⟨hn, fun _ => rfl, fun q1 => ⟨hj, fun _ => rfl, fun q2 => ⟨fun _ => rfl, fun q3 => ⟨s32, fun _ => rfl, fun q4 => ⟨_, _, _, C_isPart hx w, h.1, fun q5 => absurd ⟨⟨q1, q2, by omega⟩, q5⟩ a, fun _ => rfl⟩⟩⟩⟩⟩, h, xsame.rf⟩
/-! the model's -/
theorem p4546 {w : xW} (hC : CS w) {i : Nat} (hi : i < 40) (x y : Int) : rL (pL (pL w 45 i (jL x)) 46 i (jL y)) 45 i x ∧ rL (pL (pL w 45 i (jL x)) 46 i (jL y)) 46 i y ∧ xsame [45, 46] w (pL (pL w 45 i (jL x)) 46 i (jL y)) ∧ ∀ j u v, j ≠ i → rL w 45 j u → rL w 46 j v → rL (pL (pL w 45 i (jL x)) 46 i (jL y)) 45 j u ∧ rL (pL (pL w 45 i (jL x)) 46 i (jL y)) 46 j v := by
  have s1 : xsame [45] w (pL w 45 i (jL x)) := sm_pL (by decide)
  have s2 : xsame [46] (pL w 45 i (jL x)) (pL (pL w 45 i (jL x)) 46 i (jL y)) := sm_pL (by decide)
  refine ⟨(((kl_45 hC).has (by decide) hi).put).sm s2 (by decide), ((kl_46 hC.putL).has (by decide) hi).put, (s1.mono (by decide)).trans (s2.mono (by decide)), fun j u v hj h1 h2 => ⟨(h1.put hj).sm s2 (by decide), (h2.sm s1 (by decide)).put hj⟩⟩
theorem L_225a {n j x : Int} : ∀ (k i : Nat) (w : xW), i + k = 39 → CS w → trow w 45 46 ((i : Int) - 1) 0 →
    ∃ w', CS w' ∧ xsame [45, 46] w w' ∧ trow w' 45 46 38 0 ∧ ∀ r, xGo 225 107 [some (.ref 39), some (.int (jI n)), some (.int (jI j)), some (.int (jI x)), some (.int (jI 1)), none, none, none, none, none] [] w' r → xGo 225 49 [some (.ref 39), some (.int (jI n)), some (.int (jI j)), some (.int (jI x)), some (.int (jI (i : Int))), none, none, none, none, none] [] w r := by
  intro k
  induction k with
  | zero =>
    intro i w hi hC H
    refine ⟨w, hC, xsame.rf, ?_, fun r g => Z_225_49 hC ⟨s32, fun _ => g, fun q => by omega⟩⟩
    rw [show (38 : Int) = (i : Int) - 1 by omega]; exact H
  | succ k ih =>
    intro i w hi hC H
    have e : tT 0 i = (if i = 0 then 1 else 0, if i = 0 then 0 else tU / ((i : Int) + 1)) := rfl
    have pp := p4546 hC (i := i) (by omega) (tT 0 i).1 (tT 0 i).2
    obtain ⟨w2, b1, b2, b3, b4⟩ := ih (i + 1) (pL (pL w 45 i (jL (tT 0 i).1)) 46 i (jL (tT 0 i).2)) (by omega) hC.putL.putL (fun j hj => by
      by_cases q : j = i
      · rw [q]; exact ⟨pp.1, pp.2.1⟩
      · have r := H j (by omega)
        exact pp.2.2.2 j _ _ q r.1 r.2)
    refine ⟨w2, b1, pp.2.2.1.trans b2, b3, fun r g => Z_225_49 hC ⟨s32, fun q => by omega, fun _ => ⟨fun z => ⟨⟨by omega, by omega⟩, fun w7 e7 _ => ⟨fun _ => ⟨s32, by omega, _, tdN (by decide), fun w14 e14 _ => ?_⟩, fun q => absurd q z⟩⟩, fun z => ⟨⟨by omega, by omega⟩, fun w21 e21 _ => ⟨fun q => absurd z q, fun _ w31 e31 _ => ?_⟩⟩⟩⟩⟩
    · have z2 : ¬ i = 0 := by omega
      rw [e, if_neg z2, if_neg z2] at b4
      rw [e14, e7]; exact b4 r g
    · have z2 : i = 0 := by omega
      rw [e, if_pos z2, if_pos z2] at b4
      rw [e31, e21]; exact b4 r g
theorem L_225b {n j x : Int} {r : Nat} (r38 : r + 1 ≤ 38) : ∀ (k i : Nat) (w : xW), (i : Int) + k = 38 - r → CS w → (∀ j : Nat, j < i → rL w 45 j (tT (r + 1) j).1 ∧ rL w 46 j (tT (r + 1) j).2) → (∀ j : Nat, i ≤ j → (j : Int) ≤ 38 - r → rL w 45 j (tT r j).1 ∧ rL w 46 j (tT r j).2) →
    ∃ w', CS w' ∧ xsame [45, 46] w w' ∧ trow w' 45 46 (38 - ((r + 1 : Nat) : Int)) (r + 1) ∧ ∀ s, xGo 225 107 [some (.ref 39), some (.int (jI n)), some (.int (jI j)), some (.int (jI x)), some (.int (jI (((r + 1 : Nat) : Int) + 1))), none, none, none, none, none] [] w' s → xGo 225 116 [some (.ref 39), some (.int (jI n)), some (.int (jI j)), some (.int (jI x)), some (.int (jI ((r + 1 : Nat) : Int))), some (.int (jI (i : Int))), none, none, none, none] [] w s := by
  intro k
  induction k with
  | zero =>
    intro i w hi hC H1 H2
    exact ⟨w, hC, xsame.rf, fun j hj => H1 j (by omega), fun s g => Z_225_116 hC ⟨s32, fun _ => g, fun q => by omega⟩⟩
  | succ k ih =>
    intro i w hi hC H1 H2
    have e : tT (r + 1) i = tS i (tT r i) (tT r (i + 1)) := rfl
    have a := H2 i (by omega) (by omega)
    have b := H2 (i + 1) (by omega) (by omega)
    have p64 := tpart_b r i (by omega)
    have pp := p4546 hC (i := i) (by omega) (tT (r + 1) i).1 (tT (r + 1) i).2
    obtain ⟨w2, b1, b2, b3, b4⟩ := ih (i + 1) (pL (pL w 45 i (jL (tT (r + 1) i).1)) 46 i (jL (tT (r + 1) i).2)) (by omega) hC.putL.putL (fun j hj => by
      by_cases q : j = i
      · rw [q]; exact ⟨pp.1, pp.2.1⟩
      · have r := H1 j (by omega)
        exact pp.2.2.2 j _ _ q r.1 r.2) (fun j h1 h2 => by
      have r := H2 j (by omega) h2
      exact pp.2.2.2 j _ _ (by omega) r.1 r.2)
    refine ⟨w2, b1, pp.2.2.1.trans b2, b3, fun s g => Z_225_116 hC ⟨s32, fun q => by omega, fun _ => ⟨s32, by omega, _, a.2, by omega, _, b.2, _, _, C_downBy p64 (b := 5342931457063200) s64 (by decide) w hC, hC, by omega, _, a.1, by omega, _, b.1, ⟨by omega, by omega⟩, fun w21 e21 _ v ev w25 e25 _ => ?_⟩⟩⟩
    have ev2 : v = (tT (r + 1) i).2 := by
      rw [ev]
      show _ = (((i : Int) + 1) * ((tT r i).2 - (tT r (i + 1)).2)) % 5342931457063200
      have := dm_e (((i : Int) + 1) * ((tT r i).2 - (tT r (i + 1)).2)) 5342931457063200
      omega
    rw [e25, e21, ev2]; exact b4 s g
theorem L_225 {n j x : Int} (n0 : 0 ≤ n) (j0 : 0 ≤ j) (nj : n + j ≤ 38) (hx : 0 ≤ x ∧ x ≤ 2) : ∀ (k i : Nat) (w : xW), (i : Int) + k = n → CS w → trow w 45 46 (38 - i) i →
    ∃ w', xGo 225 107 [some (.ref 39), some (.int (jI n)), some (.int (jI j)), some (.int (jI x)), some (.int (jI ((i : Int) + 1))), none, none, none, none, none] [] w (some (.long (jL (taS n j x))), w') ∧ CS w' ∧ xsame [45, 46, 62] w w' := by
  intro k
  induction k with
  | zero =>
    intro i w hi hC H
    have tb := tT_b i j.toNat
    unfold tU at tb
    have a := H j.toNat (by omega)
    have lp := C_laysProper hC (a1 := 62) (n := 0) (x := (tT i j.toNat).1) (a := (tT i j.toNat).2) (b := tU) (kl_62 hC) (by decide) (by decide) (by decide) (by omega) (by omega) (by decide) (by decide)
    have g := l3_get (w := w) (a := 62) (n := 0) (x := (tT i j.toNat).1) (y := prA (tT i j.toNat).2 tU) (z := prB (tT i j.toNat).2 tU) (kl_62 hC) (by decide) (by decide)
    rw [show taS n j x = frT (tT i j.toNat).1 (prA (tT i j.toNat).2 tU) (prB (tT i j.toNat).2 tU) x by unfold taS; rw [if_pos ⟨⟨n0, j0, nj⟩, hx⟩, show n.toNat = i by omega]]
    have rd : rL (l3 w 62 0 (tT i j.toNat).1 (prA (tT i j.toNat).2 tU) (prB (tT i j.toNat).2 tU)) 62 x.toNat (frT (tT i j.toNat).1 (prA (tT i j.toNat).2 tU) (prB (tT i j.toNat).2 tU) x) := by
      unfold frT
      by_cases x0 : x = 0
      · rw [if_pos x0, x0]; exact g.1
      · rw [if_neg x0]
        by_cases x1 : x = 1
        · rw [if_pos x1, x1]; exact g.2.1
        · rw [if_neg x1, show x = 2 by omega]; exact g.2.2
    exact ⟨_, Z_225_107 hC ⟨s32, s32, fun _ => ⟨j0, _, a.1, j0, _, a.2, _, lp, l3_C hC, hx.1, _, rd, rfl⟩, fun q => by omega⟩, l3_C hC, l3_sm.mono (by decide)⟩
  | succ k ih =>
    intro i w hi hC H
    obtain ⟨w1, a1, a2, a3, a4⟩ := L_225b (n := n) (j := j) (x := x) (r := i) (by omega) (38 - i) 0 w (by omega) hC (fun j hj => by omega) (fun j _ hj => H j hj)
    obtain ⟨w2, b1, b2, b3⟩ := ih (i + 1) w1 (by omega) a1 a3
    exact ⟨w2, Z_225_107 hC ⟨s32, s32, fun q => by omega, fun _ => a4 _ b1⟩, b2, (a2.mono (by decide)).trans b3⟩
theorem m_triangleAt {n j x : Int} (hn : in32 n) (hj : in32 j) (hx : in32 x) : mAns E t ws me E t ws me 225 [.int (jI n), .int (jI j), .int (jI x)] (.long (jL (taS n j x))) := by
  intro w h0
  have h := h0.p0 (v := jI 0)
  have s0 : xsame mAll w (pF w 39 0 (.int (jI 0))) := sm_pF (by decide)
  by_cases a : (0 ≤ n ∧ 0 ≤ j ∧ n + j ≤ 38) ∧ 0 ≤ x ∧ x ≤ 2
  · obtain ⟨w1, a1, a2, a3, a4⟩ := L_225a (n := n) (j := j) (x := x) 39 0 _ rfl h.1 (fun j hj => by omega)
    obtain ⟨w2, b1, b2, b3⟩ := L_225 a.1.1 a.1.2.1 a.1.2.2 a.2 n.toNat 0 w1 (by omega) a1 a3
    have sm : xsame [45, 46, 62] (pF w 39 0 (.int (jI 0))) w2 := (a2.mono (by decide)).trans b3
    refine ⟨w2, Z_225 h0.1 (fun w3 e _ => ?_), h.same sm (by decide) b2, s0.trans (sm.mono (by decide))⟩
    subst e
    exact ⟨hn, fun q => by omega, fun _ => ⟨hj, fun q => by omega, fun _ => ⟨fun q => by omega, fun _ => ⟨fun q => by omega, fun _ => ⟨s32, fun q => by omega, fun _ => ⟨_, _, _, C_isIn hx s32 s32 _, h.1, fun _ => a4 _ b1, fun q => absurd a.2 q⟩⟩⟩⟩⟩⟩
  · rw [show taS n j x = lNO from if_neg a]
    refine ⟨_, Z_225 h0.1 (fun w3 e _ => ?_), h, s0⟩
    subst e
    exact ⟨hn, fun _ => rfl, fun q1 => ⟨hj, fun _ => rfl, fun q2 => ⟨fun _ => rfl, fun q3 => ⟨fun _ => rfl, fun q4 => ⟨s32, fun _ => rfl, fun q5 => ⟨_, _, _, C_isIn hx s32 s32 _, h.1, fun q6 => absurd ⟨⟨q1, q2, q5⟩, q6⟩ a, fun _ => rfl⟩⟩⟩⟩⟩⟩
end T9
