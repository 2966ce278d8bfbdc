/-! the pairs: searched, counted, told -/
def cPl (l : List (Nat × Nat)) (z : Int) (w : xW) : Prop := w[31]? = some (.inr (9, [.ref 28, .ref 32, .ref 33, .int (jI l.length), .int (jI z)])) ∧ ∀ (k : Nat) (q : Nat × Nat), l[k]? = some q → rI w 32 k q.1 ∧ rI w 33 k q.2
theorem cP_l {w : xW} (h : cP w) : ∃ s, s ≤ 45 ∧ cPl (p9 s) ((s : Int) + 1) w := by
  obtain ⟨s, f, g, hs, h1, h2, h3, h4⟩ := h
  rw [prs_9] at h1
  refine ⟨s, hs, h1, fun k q hk => ?_⟩
  have kl : k < (p9 s).length := (List.getElem?_eq_some_iff.mp hk).1
  have := p9_c s (by omega)
  rw [← prs_9] at hk
  have := h4 k q hk
  exact ⟨⟨100, f, h2, by decide, by omega, this.1⟩, ⟨100, g, h3, by decide, by omega, this.2⟩⟩
theorem l_cP {w : xW} {s : Nat} (hC : CS w) (hs : s ≤ 45) (h : cPl (p9 s) ((s : Int) + 1) w) : cP w := by
  obtain ⟨f, hf⟩ := kl_32 hC
  obtain ⟨g, hg⟩ := kl_33 hC
  refine ⟨s, f, g, hs, ?_, hf, hg, fun k q hk => ?_⟩
  · rw [prs_9]; exact h.1
  · rw [prs_9] at hk
    have := h.2 k q hk
    exact ⟨this.1.val hf, this.2.val hg⟩
theorem cPl.n {l : List (Nat × Nat)} {z : Int} {w : xW} (h : cPl l z w) : fI w 31 9 3 (l.length : Int) := ⟨_, h.1, rfl⟩
theorem cPl.s {l : List (Nat × Nat)} {z : Int} {w : xW} (h : cPl l z w) : fI w 31 9 4 z := ⟨_, h.1, rfl⟩
theorem cPl.sm {l : List (Nat × Nat)} {z : Int} {w w' : xW} {S : List Nat} (h : cPl l z w) (hs : xsame S w w') (h1 : 31 ∉ S) (h2 : 32 ∉ S) (h3 : 33 ∉ S) : cPl l z w' :=
  ⟨hs.get h1 h.1, fun k q hk => ⟨(h.2 k q hk).1.sm hs h2, (h.2 k q hk).2.sm hs h3⟩⟩
theorem cPl.add {l : List (Nat × Nat)} {z : Int} {w : xW} (hC : CS w) (h : cPl l z w) (hl : l.length < 100) (a b : Nat) : cPl (l ++ [(a, b)]) z (pF (pI (pI w 32 l.length (jI (a : Int))) 33 l.length (jI (b : Int))) 31 3 (.int (jI ((l.length : Int) + 1)))) := by
  have s1 : xsame [32] w (pI w 32 l.length (jI (a : Int))) := sm_pI (by decide)
  have s2 : xsame [33] (pI w 32 l.length (jI (a : Int))) (pI (pI w 32 l.length (jI (a : Int))) 33 l.length (jI (b : Int))) := sm_pI (by decide)
  have s3 : xsame [31] (pI (pI w 32 l.length (jI (a : Int))) 33 l.length (jI (b : Int))) (pF (pI (pI w 32 l.length (jI (a : Int))) 33 l.length (jI (b : Int))) 31 3 (.int (jI ((l.length : Int) + 1)))) := sm_pF (by decide)
  have c1 : CS (pI w 32 l.length (jI (a : Int))) := hC.putI
  have h31 := s2.get (by decide) (s1.get (by decide) h.1)
  refine ⟨?_, fun k q hk => ?_⟩
  · rw [pF_of h31, set_get h31, List.length_append]
    rfl
  · have p1 : rI (pI w 32 l.length (jI (a : Int))) 32 l.length a := ((kl_32 hC).has (by decide) hl).put
    have p2 : rI (pI (pI w 32 l.length (jI (a : Int))) 33 l.length (jI (b : Int))) 33 l.length b := ((kl_33 c1).has (by decide) hl).put
    by_cases kl : k < l.length
    · rw [List.getElem?_append_left kl] at hk
      have := h.2 k q hk
      exact ⟨((this.1.put (by omega)).sm s2 (by decide)).sm s3 (by decide), ((this.2.sm s1 (by decide)).put (by omega)).sm s3 (by decide)⟩
    · rw [List.getElem?_append_right (by omega)] at hk
      have e : k = l.length := by
        have := (List.getElem?_eq_some_iff.mp hk).1
        simp at this
        omega
      subst e
      rw [Nat.sub_self] at hk
      have e2 : (a, b) = q := by simpa using hk
      subst e2
      exact ⟨(p1.sm s2 (by decide)).sm s3 (by decide), p2.sm s3 (by decide)⟩
section P6
variable {c : Nat} {E : eT} {t : Int} {ws : Nat → Int} {me : memT} {w : xW}
theorem cst.prs (h : cst E t ws me w) (ht : t ≤ 38) (hl : me.length ≤ 20) {w' : xW} (hs : xsame [28, 29, 30, 31, 32, 33] w w') (hC : CS w') (hB : cB w') (hP : cP w') : cst E t ws me w' := by
  refine cst_of hC (h.top.sm hs (by decide)) (fun n k q1 q2 => (h.cb q1 q2).sm hs (by decide)) (fun n q => ?_) (fun n q => ?_) (fun n q => (h.wy ht q).sm hs (by decide)) (h.mz.sm hs (by decide)) (fun k q hq => ?_) hB hP
  · obtain ⟨a, b, c⟩ := h.rt q
    exact ⟨a.sm hs (by decide), b.sm hs (by decide), c.sm hs (by decide)⟩
  · obtain ⟨a, b, c⟩ := h.nw ht q
    exact ⟨a.sm hs (by decide), b.sm hs (by decide), c.sm hs (by decide)⟩
  · obtain ⟨a, b, c⟩ := h.mm hl hq
    exact ⟨a.sm hs (by decide), b.sm hs (by decide), c.sm hs (by decide)⟩
theorem cB.sm {w w' : xW} {S : List Nat} (h : cB w) (hs : xsame S w w') (h1 : 28 ∉ S) (h2 : 29 ∉ S) : cB w' := by
  obtain ⟨fp, fw, f, a, b, k⟩ := h
  exact ⟨fp, fw, f, hs.get h1 a, hs.get h2 b, k⟩
theorem L_122 {p : Nat} {l : List (Nat × Nat)} {z : Int} (hp : p ∈ prN) (hl : (l ++ pO p ((p - 3) / 2)).length ≤ 9) : ∀ (k i : Nat) (w : xW), i + k = (p - 3) / 2 → CS w → (∀ i, i + 2 ≤ p → rL w 29 i ((bwS p i : Nat) : Int)) → cPl (l ++ pO p i) z w →
    ∃ w', xGo 122 11 [some (.ref 31), some (.int (jI (p : Int))), some (.int (jI ((2 * i + 2 : Nat) : Int)))] [] w (none, w') ∧ CS w' ∧ xsame [31, 32, 33] w w' ∧ cPl (l ++ pO p ((p - 3) / 2)) z w' := by
  have pb := prN_b p hp
  have po := pr_odd hp
  intro k
  induction k with
  | zero =>
    intro i w hi hC H P
    have e : i = (p - 3) / 2 := by omega
    subst e
    exact ⟨w, Z_122_11 hC ⟨s32, s32, fun _ => rfl, fun q => by omega⟩, hC, xsame.rf, P⟩
  | succ k ih =>
    intro i w hi hC H P
    have lb : (l ++ pO p i).length ≤ 9 := by
      have := pO_mono p (k + 1) i
      rw [hi] at this
      rw [List.length_append] at hl ⊢
      omega
    have e : pO p (i + 1) = pO p i ++ (if bwS p (2 * i + 2) = 0 then [(p, 2 * i + 2)] else []) := rfl
    have r := C_residueOf hC (p := p) (n := ((2 * i + 2 : Nat) : Int)) hp (by omega) (by omega) H
    rw [Int.toNat_natCast] at r
    have bl := bw_lt (n := 2 * i + 2) hp
    by_cases b0 : bwS p (2 * i + 2) = 0
    · rw [if_pos b0, ] at e
      have A := cPl.add hC P (by omega) p (2 * i + 2)
      rw [List.append_assoc, ← e] at A
      have s1 : xsame [31, 32, 33] w (pI w 32 (l ++ pO p i).length (jI (p : Int))) := sm_pI (by decide)
      have s2 : xsame [31, 32, 33] (pI w 32 (l ++ pO p i).length (jI (p : Int))) (pI (pI w 32 (l ++ pO p i).length (jI (p : Int))) 33 (l ++ pO p i).length (jI ((2 * i + 2 : Nat) : Int))) := sm_pI (by decide)
      have s3 : xsame [31, 32, 33] (pI (pI w 32 (l ++ pO p i).length (jI (p : Int))) 33 (l ++ pO p i).length (jI ((2 * i + 2 : Nat) : Int))) (pF (pI (pI w 32 (l ++ pO p i).length (jI (p : Int))) 33 (l ++ pO p i).length (jI ((2 * i + 2 : Nat) : Int))) 31 3 (.int (jI (((l ++ pO p i).length : Int) + 1)))) := sm_pF (by decide)
      have sm := (s1.trans s2).trans s3
      have hC1 : CS (pI w 32 (l ++ pO p i).length (jI (p : Int))) := hC.putI
      have hC2 : CS (pI (pI w 32 (l ++ pO p i).length (jI (p : Int))) 33 (l ++ pO p i).length (jI ((2 * i + 2 : Nat) : Int))) := hC1.putI
      obtain ⟨w', g1, g2, g3, g4⟩ := ih (i + 1) _ (by omega) (ks_31_3 hC2) (fun j hj => (H j hj).sm sm (by decide)) A
      rw [show ((2 * (i + 1) + 2 : Nat) : Int) = ((2 * i + 2 : Nat) : Int) + 2 by omega] at g1
      refine ⟨w', Z_122_11 hC ⟨s32, s32, fun q => by omega, fun _ => ⟨_, P.n, s32, fun q => by omega, fun _ => ⟨_, _, r, hC, ⟨by omega, by omega⟩, fun q => absurd (by omega) q, fun _ => ⟨_, P.n, ⟨by omega, by omega⟩, fun w15 e15 _ => ⟨((l ++ pO p i).length : Int), ?_, ⟨by omega, by omega⟩, fun w21 e21 _ => ⟨((l ++ pO p i).length : Int), ?_, fun w26 e26 _ => ?_⟩⟩⟩⟩⟩⟩, g2, sm.trans g3, g4⟩
      · have q := P.n
        obtain ⟨fs, q1, q2⟩ := q
        rw [e15]
        have s1' : xsame [32] w (pI w 32 ((l ++ pO p i).length : Int).toNat (jI (p : Int))) := sm_pI (by decide)
        exact ⟨fs, s1'.get (by decide) q1, q2⟩
      · obtain ⟨fs, q1, q2⟩ := P.n
        rw [e21, e15]
        have s1' : xsame [32, 33] w (pI w 32 ((l ++ pO p i).length : Int).toNat (jI (p : Int))) := sm_pI (by decide)
        have s2' : xsame [32, 33] (pI w 32 ((l ++ pO p i).length : Int).toNat (jI (p : Int))) (pI (pI w 32 ((l ++ pO p i).length : Int).toNat (jI (p : Int))) 33 ((l ++ pO p i).length : Int).toNat (jI ((2 * i + 2 : Nat) : Int))) := sm_pI (by decide)
        exact ⟨fs, (s1'.trans s2').get (by decide) q1, q2⟩
      · rw [e26, e21, e15, Int.toNat_natCast]
        exact g1
    · rw [if_neg b0, List.append_nil] at e
      rw [← e] at P
      obtain ⟨w', g1, g2, g3, g4⟩ := ih (i + 1) w (by omega) hC H P
      rw [e] at P
      rw [show ((2 * (i + 1) + 2 : Nat) : Int) = ((2 * i + 2 : Nat) : Int) + 2 by omega] at g1
      exact ⟨w', Z_122_11 hC ⟨s32, s32, fun q => by omega, fun _ => ⟨_, P.n, s32, fun q => by omega, fun _ => ⟨_, _, r, hC, ⟨by omega, by omega⟩, fun _ => g1, fun q => by omega⟩⟩⟩, g2, g3, g4⟩
theorem prZ_N : ∀ s : Nat, s < 45 → (prZ (s + 1)).toNat ∈ prN ∧ (((prZ (s + 1)).toNat : Nat) : Int) = prZ (s + 1) := by decide
theorem C_search (h : cst E t ws me w) (ht : t ≤ 38) (hl : me.length ≤ 20) {s : Nat} (hs : s < 45) (P : cPl (p9 s) ((s : Int) + 1) w) : ∃ w', xCall 122 [.ref 31, .int (jI (prZ (s + 1)))] w (none, w') ∧ CS w' ∧ cB w' ∧ xsame [28, 29, 30, 31, 32, 33] w w' ∧ cPl (p9 (s + 1)) ((s : Int) + 1) w' := by
  obtain ⟨hp, ep⟩ := prZ_N s hs
  have e := p9_s s hs
  rw [← pO_9 _ hp] at e
  obtain ⟨w1, a1, a2, a3, a4⟩ := C_fill h ht hl (y := 2) hp (by decide)
  have lb := p9_c (s + 1) (by omega)
  rw [e] at lb
  obtain ⟨w2, b1, b2, b3, b4⟩ := L_122 (z := (s : Int) + 1) hp lb _ 0 w1 (Nat.zero_add _) a2.1 a4 (by
    show cPl (p9 s ++ []) _ _
    rw [List.append_nil]
    exact P.sm a3 (by decide) (by decide) (by decide))
  rw [← e] at b4
  rw [ep] at a1 b1
  refine ⟨w2, Z_122 h.1 ⟨_, a1, a2.1, b1⟩, b2, ?_, (a3.mono (by decide)).trans (b3.mono (by decide)), b4⟩
  exact cB.sm a2.2.2.2.2.2.2.2.1 b3 (by decide) (by decide)
theorem C_searchUp (ht : t ≤ 38) (hl : me.length ≤ 20) {z : Int} (hz : in32 z) : ∀ (k s : Nat) (w : xW), s + k = 45 → cst E t ws me w → cPl (p9 s) ((s : Int) + 1) w →
    ∃ w' s', xGo 121 0 [some (.ref 31), some (.int (jI z))] [] w (none, w') ∧ cst E t ws me w' ∧ xsame [28, 29, 30, 31, 32, 33] w w' ∧ s' ≤ 45 ∧ cPl (p9 s') ((s' : Int) + 1) w' ∧ (s' = 45 ∨ z < prZ (s' + 1)) := by
  intro k
  induction k with
  | zero =>
    intro s w hk h P
    have e : s = 45 := by omega
    subst e
    exact ⟨w, 45, Z_121_0 h.1 ⟨_, P.s, s32, fun q => by omega, fun _ => ⟨fun _ => rfl, fun q => by omega⟩⟩, h, xsame.rf, by omega, P, Or.inl rfl⟩
  | succ k ih =>
    intro s w hk h P
    have et : ((s : Int) + 1).toNat = s + 1 := by omega
    by_cases v : z < prZ (s + 1)
    · exact ⟨w, s, Z_121_0 h.1 ⟨_, P.s, s32, fun q => by omega, fun _ => ⟨fun q => by omega, fun _ => ⟨⟨by omega, by omega⟩, hz, fun _ => rfl, fun q => by rw [et] at q; omega⟩⟩⟩, h, xsame.rf, by omega, P, Or.inr v⟩
    · obtain ⟨w1, a1, a2, a3, a4, a5⟩ := C_search h ht hl (by omega) P
      have s1 : xsame [31] w1 (pF w1 31 4 (.int (jI ((s : Int) + 1 + 1)))) := sm_pF (by decide)
      have c1 : CS (pF w1 31 4 (.int (jI ((s : Int) + 1 + 1)))) := ks_31_4 a2
      have P1 : cPl (p9 (s + 1)) (((s + 1 : Nat) : Int) + 1) (pF w1 31 4 (.int (jI ((s : Int) + 1 + 1)))) := by
        refine ⟨?_, fun k q hk => ?_⟩
        · rw [pF_of a5.1, set_get a5.1]
          rfl
        · have := a5.2 k q hk
          exact ⟨this.1.sm s1 (by decide), this.2.sm s1 (by decide)⟩
      have h1 := h.prs ht hl (a4.trans (s1.mono (by decide))) c1 (cB.sm a3 s1 (by decide) (by decide)) (l_cP c1 (by omega) P1)
      obtain ⟨w', s', g1, g2, g3, g4, g5, g6⟩ := ih (s + 1) _ (by omega) h1 P1
      refine ⟨w', s', Z_121_0 h.1 ⟨_, P.s, s32, fun q => by omega, fun _ => ⟨fun q => by omega, fun _ => ⟨⟨by omega, by omega⟩, hz, fun q => by rw [et] at q; omega, fun _ => ⟨w1, by rw [et]; exact a1, a2, (s : Int) + 1, a5.s, fun w12 e12 _ => by rw [e12]; exact g1⟩⟩⟩⟩, g2, (a4.trans (s1.mono (by decide))).trans g3, g4, g5, g6⟩
theorem C_up (h : cst E t ws me w) (ht : t ≤ 38) (hl : me.length ≤ 20) {z : Int} (hz : in32 z) : ∃ w' s', xCall 121 [.ref 31, .int (jI z)] w (none, w') ∧ cst E t ws me w' ∧ xsame [28, 29, 30, 31, 32, 33] w w' ∧ s' ≤ 45 ∧ cPl (p9 s') ((s' : Int) + 1) w' ∧ (s' = 45 ∨ z < prZ (s' + 1)) := by
  obtain ⟨s, hs, P⟩ := cP_l h.2.2.2.2.2.2.2.2
  obtain ⟨w', s', g1, g⟩ := C_searchUp (E := E) (t := t) (ws := ws) (me := me) ht hl hz (45 - s) s w (by omega) h P
  exact ⟨w', s', E_121 g1, g⟩
end P6
