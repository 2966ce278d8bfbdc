/-! the calls relay, agree, heal -/
section R2
variable {c : Nat} {E : eT} {t : Int} {ws : Nat → Int} {me : memT} {w : xW}
abbrev rlOK (E : eT) (t n y : Int) : Prop := (0 ≤ n ∧ (0 ≤ y ∧ y ≤ 2)) ∧ n ≤ t ∧ (y = 0 → allRb E n.toNat = true)
def rlE (E : eT) (t n y : Int) : eT := if rlOK E t n y then updE E n.toNat (rE n.toNat) else E
def rlW (E : eT) (t : Int) (ws : Nat → Int) (n y : Int) : Nat → Int := if rlOK E t n y then updW ws n.toNat y else ws
def rlS (E : eT) (t n y : Int) : Int := if (0 ≤ n ∧ n ≤ 38) ∧ (0 ≤ y ∧ y ≤ 2) then (if n ≤ t then (if y = 0 → allRb E n.toNat = true then (if E n.toNat = rE n.toNat then 0 else 1) else -3) else -2) else -1
theorem ok_rl (ok : okS c E t ws me) (n y : Int) : okS c (rlE E t n y) t (rlW E t ws n y) me := by
  have ht := ok.2.2.1
  unfold rlE rlW
  by_cases a : rlOK E t n y
  · rw [if_pos a, if_pos a]
    exact ok_wy (ok_rt ok (by omega)) a.1.2.1 (by omega)
  · rw [if_neg a, if_neg a]; exact ok
theorem c_relay (ok : okS c E t ws me) {n y : Int} (hn : in32 n) (hy : in32 y) : cAns E t ws me (rlE E t n y) t (rlW E t ws n y) me 58 [.int (jI n), .int (jI y)] (.int (jI (rlS E t n y))) := by
  intro w h
  have ht1 := ok.2.1
  have ht := ok.2.2.1
  have stay : ¬ rlOK E t n y → cst (rlE E t n y) t (rlW E t ws n y) me w := by
    intro a
    unfold rlE rlW
    rw [if_neg a, if_neg a]; exact h
  by_cases v : (0 ≤ n ∧ n ≤ 38) ∧ (0 ≤ y ∧ y ≤ 2)
  · by_cases tn : n ≤ t
    · have alr := C_allRight h ok (n := n.toNat) (by omega)
      rw [Int.toNat_of_nonneg v.1.1] at alr
      by_cases al : y = 0 → allRb E n.toNat = true
      · have a : rlOK E t n y := ⟨⟨v.1.1, v.2⟩, tn, al⟩
        obtain ⟨w2, b1, b2, b3⟩ := C_layOld h ok v.1.1 tn v.2 (fun q => allRb_iff.mp (al q))
        have eS : rlS E t n y = if E n.toNat = rE n.toNat then 0 else 1 := by unfold rlS; rw [if_pos v, if_pos tn, if_pos al]
        have r0 : ¬ (E n.toNat ≠ rE n.toNat) → (some (Value.int (jI (rlS E t n y))), w2) = (some (.int (jI 0)), w2) := fun q => by rw [eS, if_pos (Decidable.not_not.mp q)]
        have r1 : (E n.toNat ≠ rE n.toNat) → (some (Value.int (jI (rlS E t n y))), w2) = (some (.int (jI 1)), w2) := fun q => by rw [eS, if_neg q]
        refine ⟨w2, Z_58 h.1 ⟨_, _, _, C_isEntry hn w, h.1, fun q => absurd v.1 q, fun _ => ⟨_, _, _, C_isWay hy w, h.1, fun _ => ⟨_, h.top, hn, s32, fun _ => ⟨hy, fun q => ⟨_, _, _, b1, b2.1, r0, r1⟩, fun q => ⟨_, _, _, alr, h.1, fun _ => ⟨_, _, _, b1, b2.1, r0, r1⟩, fun z => absurd (al q) z⟩⟩, fun q => by omega⟩, fun q => absurd v.2 q⟩⟩, ?_, b3.mono (by decide)⟩
        unfold rlE rlW
        rw [if_pos a, if_pos a]; exact b2
      · refine ⟨w, ?_, stay (fun q => al q.2.2), xsame.rf⟩
        have y0 : y = 0 := Decidable.not_not.mp (fun z => al (fun q => absurd q z))
        have na : ¬ allRb E n.toNat = true := fun z => al (fun _ => z)
        rw [show rlS E t n y = -3 by unfold rlS; rw [if_pos v, if_pos tn, if_neg al]]
        exact Z_58 h.1 ⟨_, _, _, C_isEntry hn w, h.1, fun q => absurd v.1 q, fun _ => ⟨_, _, _, C_isWay hy w, h.1, fun _ => ⟨_, h.top, hn, s32, fun _ => ⟨hy, fun q => absurd y0 q, fun q => ⟨_, _, _, alr, h.1, fun z => absurd z na, fun _ => rfl⟩⟩, fun q => by omega⟩, fun q => absurd v.2 q⟩⟩
    · refine ⟨w, ?_, stay (fun q => tn q.2.1), xsame.rf⟩
      rw [show rlS E t n y = -2 by unfold rlS; rw [if_pos v, if_neg tn]]
      exact Z_58 h.1 ⟨_, _, _, C_isEntry hn w, h.1, fun q => absurd v.1 q, fun _ => ⟨_, _, _, C_isWay hy w, h.1, fun _ => ⟨_, h.top, hn, s32, fun q => by omega, fun _ => rfl⟩, fun q => absurd v.2 q⟩⟩
  · refine ⟨w, ?_, stay (fun q => v ⟨⟨q.1.1, by have := q.2.1; omega⟩, q.1.2⟩), xsame.rf⟩
    rw [show rlS E t n y = -1 from if_neg v]
    exact Z_58 h.1 ⟨_, _, _, C_isEntry hn w, h.1, fun _ => rfl, fun q => ⟨_, _, _, C_isWay hy w, h.1, fun q2 => absurd ⟨q, q2⟩ v, fun _ => rfl⟩⟩
theorem m_relay (ok : okS c E t ws me) {n y : Int} (hn : in32 n) (hy : in32 y) : mAns E t ws me (rlE E t n y) t (rlW E t ws n y) me 203 [.int (jI n), .int (jI y)] (.int (jI (rlS E t n y))) := by
  intro w h0
  have h := h0.p0 (v := jI 0)
  have s0 : xsame mAll w (pF w 39 0 (.int (jI 0))) := sm_pF (by decide)
  have ht1 := ok.2.1
  have ht := ok.2.2.1
  have stay : ¬ rlOK E t n y → mst (rlE E t n y) t (rlW E t ws n y) me (pF w 39 0 (.int (jI 0))) := by
    intro a
    unfold rlE rlW
    rw [if_neg a, if_neg a]; exact h
  by_cases v : (0 ≤ n ∧ n ≤ 38) ∧ (0 ≤ y ∧ y ≤ 2)
  · by_cases tn : n ≤ t
    · have alr := C_areRight h ok (z := n - 1) (by omega) (by omega)
      rw [show n - 1 + 1 = n by omega] at alr
      have isr := C_misRight h ok (n := n.toNat) (by omega)
      rw [Int.toNat_of_nonneg v.1.1] at isr
      by_cases al : y = 0 → allRb E n.toNat = true
      · have a : rlOK E t n y := ⟨⟨v.1.1, v.2⟩, tn, al⟩
        obtain ⟨w2, b1, b2, b3⟩ := C_makesOld h ok (y := y) v.1.1 tn
        have eS : rlS E t n y = if E n.toNat = rE n.toNat then 0 else 1 := by unfold rlS; rw [if_pos v, if_pos tn, if_pos al]
        have r0 : E n.toNat = rE n.toNat → (some (Value.int (jI (rlS E t n y))), w2) = (some (.int (jI 0)), w2) := fun q => by rw [eS, if_pos q]
        have r1 : ¬ E n.toNat = rE n.toNat → (some (Value.int (jI (rlS E t n y))), w2) = (some (.int (jI 1)), w2) := fun q => by rw [eS, if_neg q]
        refine ⟨w2, Z_203 h0.1 (fun w3 e _ => ?_), ?_, s0.trans (b3.mono (by decide))⟩
        · subst e
          exact ⟨_, _, _, C_misEntry hn _, h.1, fun q => absurd v.1 q, fun _ => ⟨_, _, _, C_isIn hy s32 s32 _, h.1, fun _ => ⟨_, h.top, hn, s32, fun _ => ⟨hy, fun q => ⟨_, _, _, isr, h.1, fun z => ⟨_, b1, b2.1, r1 z⟩, fun z => ⟨_, b1, b2.1, r0 z⟩⟩, fun q => ⟨_, _, _, alr, h.1, fun _ => ⟨_, _, _, isr, h.1, fun z => ⟨_, b1, b2.1, r1 z⟩, fun z => ⟨_, b1, b2.1, r0 z⟩⟩, fun z => absurd (al q) z⟩⟩, fun q => by omega⟩, fun q => absurd v.2 q⟩⟩
        · unfold rlE rlW
          rw [if_pos a, if_pos a]; exact b2
      · refine ⟨_, Z_203 h0.1 (fun w3 e _ => ?_), stay (fun q => al q.2.2), s0⟩
        subst e
        have y0 : y = 0 := Decidable.not_not.mp (fun z => al (fun q => absurd q z))
        have na : ¬ allRb E n.toNat = true := fun z => al (fun _ => z)
        rw [show rlS E t n y = -3 by unfold rlS; rw [if_pos v, if_pos tn, if_neg al]]
        exact ⟨_, _, _, C_misEntry hn _, h.1, fun q => absurd v.1 q, fun _ => ⟨_, _, _, C_isIn hy s32 s32 _, h.1, fun _ => ⟨_, h.top, hn, s32, fun _ => ⟨hy, fun q => absurd y0 q, fun q => ⟨_, _, _, alr, h.1, fun z => absurd z na, fun _ => rfl⟩⟩, fun q => by omega⟩, fun q => absurd v.2 q⟩⟩
    · refine ⟨_, Z_203 h0.1 (fun w3 e _ => ?_), stay (fun q => tn q.2.1), s0⟩
      subst e
      rw [show rlS E t n y = -2 by unfold rlS; rw [if_pos v, if_neg tn]]
      exact ⟨_, _, _, C_misEntry hn _, h.1, fun q => absurd v.1 q, fun _ => ⟨_, _, _, C_isIn hy s32 s32 _, h.1, fun _ => ⟨_, h.top, hn, s32, fun q => by omega, fun _ => rfl⟩, fun q => absurd v.2 q⟩⟩
  · refine ⟨_, Z_203 h0.1 (fun w3 e _ => ?_), stay (fun q => v ⟨⟨q.1.1, by have := q.2.1; omega⟩, q.1.2⟩), s0⟩
    subst e
    rw [show rlS E t n y = -1 from if_neg v]
    exact ⟨_, _, _, C_misEntry hn _, h.1, fun _ => rfl, fun q => ⟨_, _, _, C_isIn hy s32 s32 _, h.1, fun q2 => absurd ⟨q, q2⟩ v, fun _ => rfl⟩⟩
/-! agree -/
def agS (E : eT) (t n : Int) : Int := if 0 ≤ n ∧ n ≤ 38 then (if n ≤ t then (if E n.toNat = rE n.toNat then (if allRb E n.toNat = true then 3 else 2) else 0) else -2) else -1
theorem agW (h : cst E t ws me w) (ok : okS c E t ws me) {n y : Int} (n0 : 0 ≤ n) (hn : n ≤ t) (hy : 0 ≤ y ∧ y ≤ 2) (al : y = 0 → allR E n.toNat) : ∃ w', xCall 33 [.ref 0, .int (jI n), .int (jI y)] w (none, w') ∧ cst E t ws me w' ∧ xsame [3, 4, 5, 6, 36] w w' ∧ xCall 56 [.ref 12, .int (jI n), .ref 36] w' (some (.int (bz (E n.toNat = rE n.toNat))), w') := by
  have ht := ok.2.2.1
  obtain ⟨w1, a1, a2, a3, a4⟩ := C_work h ok n0 (by omega) (by omega) hy al
  have b := ok_e ok n0 hn
  exact ⟨w1, a1, a2, a3, C_holds a2.1 (p := fun k => (k : Int) ≤ t) a2.2.2.2.2.1 n0 (by omega) (by omega) ⟨b.1, b.2.1, b.2.2.1⟩ (e := rE n.toNat) a4 (rE_bounds (by omega))⟩
theorem c_agree (ok : okS c E t ws me) {n : Int} (hn : in32 n) : cAns E t ws me E t ws me 80 [.int (jI n)] (.int (jI (agS E t n))) := by
  intro w h
  have ht1 := ok.2.1
  have ht := ok.2.2.1
  by_cases v : 0 ≤ n ∧ n ≤ 38
  · by_cases tn : n ≤ t
    · have alr := C_allRight h ok (n := n.toNat) (by omega)
      rw [Int.toNat_of_nonneg v.1] at alr
      have k3 : ∀ (w : xW) (m : Int), cst E t ws me w → xGo 80 24 [some (.ref 0), some (.int (jI n)), some (.int (jI m)), some (.int (jI 3))] [] w (some (.int (jI m)), w) := fun w m h => Z_80_24 h.1 ⟨s32, fun _ => rfl, fun q => by omega⟩
      have k2 : ∀ (w : xW) (m : Int), cst E t ws me w → ∃ w', xGo 80 24 [some (.ref 0), some (.int (jI n)), some (.int (jI m)), some (.int (jI 2))] [] w (some (.int (jI (if E n.toNat = rE n.toNat then m + 1 else m))), w') ∧ cst E t ws me w' ∧ xsame [3, 4, 5, 6, 36] w w' := by
        intro w m h
        obtain ⟨w1, a1, a2, a3, a4⟩ := agW h ok (y := 2) v.1 tn (by decide) (fun q => absurd q (by decide))
        refine ⟨w1, Z_80_24 h.1 ⟨s32, fun q => by omega, fun _ => ⟨fun _ => ⟨_, a1, a2.1, _, _, _, a4, a2.1, fun q => ?_, fun q => ?_⟩, fun q => absurd q (by decide)⟩⟩, a2, a3⟩
        · rw [if_neg q]; exact k3 w1 m a2
        · rw [if_pos q]; exact k3 w1 (m + 1) a2
      have k1 : ∀ (w : xW) (m : Int), cst E t ws me w → ∃ w', xGo 80 24 [some (.ref 0), some (.int (jI n)), some (.int (jI m)), some (.int (jI 1))] [] w (some (.int (jI (if E n.toNat = rE n.toNat then m + 2 else m))), w') ∧ cst E t ws me w' ∧ xsame [3, 4, 5, 6, 36] w w' := by
        intro w m h
        obtain ⟨w1, a1, a2, a3, a4⟩ := agW h ok (y := 1) v.1 tn (by decide) (fun q => absurd q (by decide))
        by_cases r : E n.toNat = rE n.toNat
        · obtain ⟨w2, b1, b2, b3⟩ := k2 w1 (m + 1) a2
          rw [if_pos r, show m + 1 + 1 = m + 2 by omega] at b1
          refine ⟨w2, Z_80_24 h.1 ⟨s32, fun q => by omega, fun _ => ⟨fun _ => ⟨_, a1, a2.1, _, _, _, a4, a2.1, fun q => absurd r q, fun q => ?_⟩, fun q => absurd q (by decide)⟩⟩, b2, a3.trans b3⟩
          rw [if_pos r]; exact b1
        · obtain ⟨w2, b1, b2, b3⟩ := k2 w1 m a2
          rw [if_neg r] at b1
          refine ⟨w2, Z_80_24 h.1 ⟨s32, fun q => by omega, fun _ => ⟨fun _ => ⟨_, a1, a2.1, _, _, _, a4, a2.1, fun q => ?_, fun q => absurd q r⟩, fun q => absurd q (by decide)⟩⟩, b2, a3.trans b3⟩
          rw [if_neg r]; exact b1
      have top : ∃ w', xGo 80 24 [some (.ref 0), some (.int (jI n)), some (.int (jI 0)), some (.int (jI 0))] [] w (some (.int (jI (agS E t n))), w') ∧ cst E t ws me w' ∧ xsame [3, 4, 5, 6, 36] w w' := by
        by_cases al : allRb E n.toNat = true
        · obtain ⟨w1, a1, a2, a3, a4⟩ := agW h ok (y := 0) v.1 tn (by decide) (fun _ => allRb_iff.mp al)
          by_cases r : E n.toNat = rE n.toNat
          · obtain ⟨w2, b1, b2, b3⟩ := k1 w1 (0 + 1) a2
            rw [if_pos r] at b1
            refine ⟨w2, Z_80_24 h.1 ⟨s32, fun q => by omega, fun _ => ⟨fun q => absurd rfl q, fun _ => ⟨_, _, _, alr, h.1, fun _ => ⟨_, a1, a2.1, _, _, _, a4, a2.1, fun q => absurd r q, fun q => ?_⟩, fun q => absurd al q⟩⟩⟩, b2, a3.trans b3⟩
            rw [show agS E t n = 0 + 1 + 2 by unfold agS; rw [if_pos v, if_pos tn, if_pos r, if_pos al]; rfl]; exact b1
          · obtain ⟨w2, b1, b2, b3⟩ := k1 w1 0 a2
            rw [if_neg r] at b1
            refine ⟨w2, Z_80_24 h.1 ⟨s32, fun q => by omega, fun _ => ⟨fun q => absurd rfl q, fun _ => ⟨_, _, _, alr, h.1, fun _ => ⟨_, a1, a2.1, _, _, _, a4, a2.1, fun q => ?_, fun q => absurd q r⟩, fun q => absurd al q⟩⟩⟩, b2, a3.trans b3⟩
            rw [show agS E t n = 0 by unfold agS; rw [if_pos v, if_pos tn, if_neg r]]; exact b1
        · obtain ⟨w2, b1, b2, b3⟩ := k1 w 0 h
          refine ⟨w2, Z_80_24 h.1 ⟨s32, fun q => by omega, fun _ => ⟨fun q => absurd rfl q, fun _ => ⟨_, _, _, alr, h.1, fun q => absurd q al, fun q => ?_⟩⟩⟩, b2, b3⟩
          rw [show agS E t n = (if E n.toNat = rE n.toNat then 0 + 2 else 0) by unfold agS; rw [if_pos v, if_pos tn, if_neg al]; rfl]; exact b1
      obtain ⟨w2, b1, b2, b3⟩ := top
      exact ⟨w2, Z_80 h.1 ⟨_, _, _, C_isEntry hn w, h.1, fun _ => ⟨_, h.top, hn, s32, fun _ => b1, fun q => by omega⟩, fun q => absurd v q⟩, b2, b3.mono (by decide)⟩
    · rw [show agS E t n = -2 by unfold agS; rw [if_pos v, if_neg tn]]
      exact ⟨w, Z_80 h.1 ⟨_, _, _, C_isEntry hn w, h.1, fun _ => ⟨_, h.top, hn, s32, fun q => by omega, fun _ => rfl⟩, fun q => absurd v q⟩, h, xsame.rf⟩
  · rw [show agS E t n = -1 from if_neg v]
    exact ⟨w, Z_80 h.1 ⟨_, _, _, C_isEntry hn w, h.1, fun q => absurd q v, fun _ => rfl⟩, h, xsame.rf⟩
theorem m_agree (ok : okS c E t ws me) {n : Int} (hn : in32 n) : mAns E t ws me E t ws me 222 [.int (jI n)] (.int (jI (agS E t n))) := by
  intro w h0
  have h := h0.p0 (v := jI 0)
  have s0 : xsame mAll w (pF w 39 0 (.int (jI 0))) := sm_pF (by decide)
  have ht1 := ok.2.1
  have ht := ok.2.2.1
  refine ⟨_, Z_222 h0.1 (fun w3 e _ => ?_), h, s0⟩
  subst e
  by_cases v : 0 ≤ n ∧ n ≤ 38
  · by_cases tn : n ≤ t
    · have alr := C_areRight h ok (z := n - 1) (by omega) (by omega)
      rw [show n - 1 + 1 = n by omega] at alr
      have isr := C_misRight h ok (n := n.toNat) (by omega)
      rw [Int.toNat_of_nonneg v.1] at isr
      refine ⟨_, _, _, C_misEntry hn _, h.1, fun _ => ⟨_, h.top, hn, s32, fun _ => ⟨_, _, _, isr, h.1, fun r => ⟨_, _, _, alr, h.1, fun al => ?_, fun al => ?_⟩, fun r => ?_⟩, fun q => by omega⟩, fun q => absurd v q⟩
      · rw [show agS E t n = 2 by unfold agS; rw [if_pos v, if_pos tn, if_pos r, if_neg al]]
      · rw [show agS E t n = 3 by unfold agS; rw [if_pos v, if_pos tn, if_pos r, if_pos al]]
      · rw [show agS E t n = 0 by unfold agS; rw [if_pos v, if_pos tn, if_neg r]]
    · rw [show agS E t n = -2 by unfold agS; rw [if_pos v, if_neg tn]]
      exact ⟨_, _, _, C_misEntry hn _, h.1, fun _ => ⟨_, h.top, hn, s32, fun q => by omega, fun _ => rfl⟩, fun q => absurd v q⟩
  · rw [show agS E t n = -1 from if_neg v]
    exact ⟨_, _, _, C_misEntry hn _, h.1, fun q => absurd q v, fun _ => rfl⟩
/-! heal -/
def hlE (E : eT) (s i : Nat) : eT := fun k => if k < i ∧ tN E (k : Int) &&& s ≠ 0 then rE k else E k
def hlW (E : eT) (ws : Nat → Int) (s i : Nat) : Nat → Int := fun k => if k < i ∧ tN E (k : Int) &&& s ≠ 0 then 1 else ws k
def hlC (E : eT) (s : Nat) : Nat → Int
  | 0 => 0
  | k + 1 => hlC E s k + (if tN E (k : Int) &&& s ≠ 0 ∧ E k ≠ rE k then 1 else 0)
theorem hlE_0 {s : Nat} : hlE E s 0 = E := by funext k; exact if_neg (by omega)
theorem hlW_0 {s : Nat} : hlW E ws s 0 = ws := by funext k; exact if_neg (by omega)
theorem hlE_i {s i : Nat} : hlE E s i i = E i := if_neg (by omega)
theorem hlE_n {s i : Nat} (h : tN E (i : Int) &&& s = 0) : hlE E s (i + 1) = hlE E s i := by
  funext k
  unfold hlE
  by_cases q : k < i ∧ tN E (k : Int) &&& s ≠ 0
  · rw [if_pos q, if_pos ⟨by omega, q.2⟩]
  · rw [if_neg q, if_neg (fun z => ?_)]
    by_cases e : k = i
    · exact z.2 (by rw [e]; exact h)
    · exact q ⟨by omega, z.2⟩
theorem hlW_n {s i : Nat} (h : tN E (i : Int) &&& s = 0) : hlW E ws s (i + 1) = hlW E ws s i := by
  funext k
  unfold hlW
  by_cases q : k < i ∧ tN E (k : Int) &&& s ≠ 0
  · rw [if_pos q, if_pos ⟨by omega, q.2⟩]
  · rw [if_neg q, if_neg (fun z => ?_)]
    by_cases e : k = i
    · exact z.2 (by rw [e]; exact h)
    · exact q ⟨by omega, z.2⟩
theorem hlE_s {s i : Nat} (h : tN E (i : Int) &&& s ≠ 0) : updE (hlE E s i) i (rE i) = hlE E s (i + 1) := by
  funext k
  by_cases e : k = i
  · rw [e, updE_at]; exact (if_pos ⟨by omega, h⟩).symm
  · rw [updE_ne e]
    unfold hlE
    by_cases q : k < i ∧ tN E (k : Int) &&& s ≠ 0
    · rw [if_pos q, if_pos ⟨by omega, q.2⟩]
    · rw [if_neg q, if_neg (fun z => q ⟨by omega, z.2⟩)]
theorem hlW_s {s i : Nat} (h : tN E (i : Int) &&& s ≠ 0) : updW (hlW E ws s i) i 1 = hlW E ws s (i + 1) := by
  funext k
  by_cases e : k = i
  · rw [e, updW_at]; exact (if_pos ⟨by omega, h⟩).symm
  · rw [updW_ne e]
    unfold hlW
    by_cases q : k < i ∧ tN E (k : Int) &&& s ≠ 0
    · rw [if_pos q, if_pos ⟨by omega, q.2⟩]
    · rw [if_neg q, if_neg (fun z => q ⟨by omega, z.2⟩)]
theorem ok_hl (ok : okS c E t ws me) (s i : Nat) : okS c (hlE E s i) t (hlW E ws s i) me := by
  have ht := ok.2.2.1
  refine ⟨ok.1, ok.2.1, ht, fun k hk => ?_, fun k hk => ?_, ok.2.2.2.2.2⟩
  · unfold hlE
    split
    · exact rE_ok (by omega) c
    · exact ok.2.2.2.1 k hk
  · unfold hlW
    split
    · exact ⟨by decide, by decide⟩
    · exact ok.2.2.2.2.1 k hk
theorem hl_bit (E : eT) (s : Nat) {i K : Nat} (hi : i < K) (hK : K ≤ 39) : jL (suS E s K : Int) >>> ((jI (i : Int)).toInt64 &&& 63) = jL ((suS E s K / 2 ^ i : Nat) : Int) ∧ jL ((suS E s K / 2 ^ i : Nat) : Int) &&& jL 1 = jL (if tN E (i : Int) &&& s ≠ 0 then 1 else 0) := by
  have lt := suS_lt E s K
  have p : 2 ^ K ≤ 2 ^ 39 := Nat.pow_le_pow_right (by decide) hK
  have dl : suS E s K / 2 ^ i ≤ suS E s K := Nat.div_le_self _ _
  have p39 : (2 : Nat) ^ 39 < 2 ^ 62 := by decide
  have b := suS_bit E s K i hi
  refine ⟨jL_shr (by omega) (by omega), ?_⟩
  have a := jL_andk (n := suS E s K / 2 ^ i) (k := 1) (by omega) (by decide)
  rw [show (2 : Nat) ^ 1 = 2 from rfl, b] at a
  by_cases q : tN E (i : Int) &&& s ≠ 0
  · rw [if_pos q]; rw [if_pos q] at a; exact a
  · rw [if_neg q]; rw [if_neg q] at a; exact a
theorem L_heal (ok : okS c E t ws me) {s : Nat} : ∀ (k i : Nat) (w : xW), (i : Int) + k = t + 1 → cst (hlE E s i) t (hlW E ws s i) me w →
    ∃ w', xGo 75 21 [some (.ref 0), some (.int (jI (s : Int))), some (.long (jL (suS E s (t + 1).toNat : Int))), none, some (.int (jI (hlC E s i))), some (.int (jI (i : Int)))] [] w (some (.int (jI (hlC E s (t + 1).toNat))), w') ∧ cst (hlE E s (t + 1).toNat) t (hlW E ws s (t + 1).toNat) me w' ∧ xsame [3, 4, 5, 6, 13, 14, 15, 22, 36] w w' := by
  have ht1 := ok.2.1
  have ht := ok.2.2.1
  intro k
  induction k with
  | zero =>
    intro i w hi h
    rw [show (t + 1).toNat = i by omega]
    exact ⟨w, Z_75_21 h.1 ⟨_, h.top, s32, s32, fun _ => rfl, fun q => by omega⟩, h, xsame.rf⟩
  | succ k ih =>
    intro i w hi h
    obtain ⟨b1, b2⟩ := hl_bit E s (i := i) (K := (t + 1).toNat) (by omega) (by omega)
    have e : hlC E s (i + 1) = hlC E s i + (if tN E (i : Int) &&& s ≠ 0 ∧ E i ≠ rE i then 1 else 0) := rfl
    by_cases q : tN E (i : Int) &&& s ≠ 0
    · rw [if_pos q] at b2
      obtain ⟨w1, a1, a2, a3⟩ := C_layOld h (ok_hl ok s i) (n := (i : Int)) (y := 1) (by omega) (by omega) (by decide) (fun z => absurd z (by decide))
      rw [Int.toNat_natCast, hlE_i] at a1
      rw [Int.toNat_natCast, hlE_s q, hlW_s q] at a2
      obtain ⟨w2, d1, d2, d3⟩ := ih (i + 1) w1 (by omega) a2
      rw [e] at d1
      refine ⟨w2, Z_75_21 h.1 ⟨_, h.top, s32, s32, fun z => by omega, fun _ => ⟨_, b1, _, b2, s64, fun z => absurd rfl z, fun _ => ⟨_, _, _, a1, a2.1, fun z => ?_, fun z => ?_⟩⟩⟩, d2, a3.trans d3⟩
      · rw [if_neg (fun y => z y.2), Int.add_zero] at d1; exact d1
      · rw [if_pos ⟨q, z⟩] at d1; exact d1
    · rw [if_neg q] at b2
      have q0 : tN E (i : Int) &&& s = 0 := Decidable.not_not.mp q
      obtain ⟨w2, d1, d2, d3⟩ := ih (i + 1) w (by omega) (by rw [hlE_n q0, hlW_n q0]; exact h)
      rw [e, if_neg (fun y => q y.1), Int.add_zero] at d1
      exact ⟨w2, Z_75_21 h.1 ⟨_, h.top, s32, s32, fun z => by omega, fun _ => ⟨_, b1, _, b2, s64, fun _ => d1, fun z => absurd z (by decide)⟩⟩, d2, d3⟩
def heE (E : eT) (t x : Int) : eT := if 0 ≤ x ∧ x ≤ 63 then hlE E x.toNat (t + 1).toNat else E
def heW (E : eT) (t : Int) (ws : Nat → Int) (x : Int) : Nat → Int := if 0 ≤ x ∧ x ≤ 63 then hlW E ws x.toNat (t + 1).toNat else ws
def heS (E : eT) (t x : Int) : Int := if 0 ≤ x ∧ x ≤ 63 then hlC E x.toNat (t + 1).toNat else -1
theorem ok_he (ok : okS c E t ws me) (x : Int) : okS c (heE E t x) t (heW E t ws x) me := by
  unfold heE heW
  by_cases a : 0 ≤ x ∧ x ≤ 63
  · rw [if_pos a, if_pos a]; exact ok_hl ok _ _
  · rw [if_neg a, if_neg a]; exact ok
theorem c_heal (ok : okS c E t ws me) {x : Int} (hx : in32 x) : cAns E t ws me (heE E t x) t (heW E t ws x) me 75 [.int (jI x)] (.int (jI (heS E t x))) := by
  intro w h
  have ht1 := ok.2.1
  unfold heE heW heS
  by_cases a : 0 ≤ x ∧ x ≤ 63
  · rw [if_pos a, if_pos a, if_pos a]
    obtain ⟨w1, a1, a2, a3⟩ := C_failing h ok (s := x.toNat) (by omega)
    obtain ⟨w2, b1, b2, b3⟩ := L_heal ok (s := x.toNat) (t + 1).toNat 0 w1 (by omega) (by rw [hlE_0, hlW_0]; exact a2)
    rw [Int.toNat_of_nonneg a.1] at a1 b1
    exact ⟨w2, Z_75 h.1 ⟨_, _, _, C_areTests hx w, h.1, fun _ => ⟨_, _, a1, a2.1, b1⟩, fun q => absurd a q⟩, b2, (a3.mono (by decide)).trans (b3.mono (by decide))⟩
  · rw [if_neg a, if_neg a, if_neg a]
    exact ⟨w, Z_75 h.1 ⟨_, _, _, C_areTests hx w, h.1, fun q => absurd q a, fun _ => rfl⟩, h, xsame.rf⟩
theorem L_243a (ok : okS c E t ws me) {s : Nat} (hs : s < 64) : ∀ (k i : Nat) (w : xW), (i : Int) + k = t + 1 → mst E t ws me w →
    ∃ w', mst E t ws me w' ∧ xsame [39] w w' ∧ ∀ r, xGo 243 61 [some (.ref 39), some (.int (jI (s : Int))), some (.long (jL (suS E s (t + 1).toNat : Int))), none, some (.int (jI 0)), some (.int (jI 0))] [] w' r → xGo 243 22 [some (.ref 39), some (.int (jI (s : Int))), some (.long (jL (suS E s i : Int))), none, some (.int (jI (i : Int))), none] [] w r := by
  have ht1 := ok.2.1
  have ht := ok.2.2.1
  intro k
  induction k with
  | zero =>
    intro i w hi h
    rw [show (t + 1).toNat = i by omega]
    exact ⟨w, h, xsame.rf, fun r g => Z_243_22 h.1 ⟨_, h.top, s32, s32, fun _ => g, fun q => by omega⟩⟩
  | succ k ih =>
    intro i w hi h
    obtain ⟨w1, a1, a2, a3⟩ := C_testsOf h ok (n := (i : Int)) (by omega) (by omega)
    obtain ⟨w2, b1, b2, b3⟩ := ih (i + 1) w1 (by omega) a2
    refine ⟨w2, b1, a3.trans b2, fun r g => Z_243_22 h.1 ⟨_, h.top, s32, s32, fun q => by omega, fun _ => ⟨_, _, a1, a2.1, _, nd_all _ (tP_b E i).2.2.2.2.2 s hs, nd_in hs, fun q => ?_, fun q => ⟨_, jL_1shl i (by omega), _, su_step E (by omega) (fun z => q (by rw [z]; rfl)), b3 r g⟩⟩⟩⟩
    rw [su_same E (by omega)] at b3
    exact b3 r g
theorem L_mheal (ok : okS c E t ws me) {s : Nat} : ∀ (k i : Nat) (w : xW), (i : Int) + k = t + 1 → mst (hlE E s i) t (hlW E ws s i) me w →
    ∃ w', xGo 243 61 [some (.ref 39), some (.int (jI (s : Int))), some (.long (jL (suS E s (t + 1).toNat : Int))), none, some (.int (jI (hlC E s i))), some (.int (jI (i : Int)))] [] w (some (.int (jI (hlC E s (t + 1).toNat))), w') ∧ mst (hlE E s (t + 1).toNat) t (hlW E ws s (t + 1).toNat) me w' ∧ xsame [41, 42] w w' := by
  have ht1 := ok.2.1
  have ht := ok.2.2.1
  intro k
  induction k with
  | zero =>
    intro i w hi h
    rw [show (t + 1).toNat = i by omega]
    exact ⟨w, Z_243_61 h.1 ⟨_, h.top, s32, s32, fun _ => rfl, fun q => by omega⟩, h, xsame.rf⟩
  | succ k ih =>
    intro i w hi h
    obtain ⟨b1, b2⟩ := hl_bit E s (i := i) (K := (t + 1).toNat) (by omega) (by omega)
    have e : hlC E s (i + 1) = hlC E s i + (if tN E (i : Int) &&& s ≠ 0 ∧ E i ≠ rE i then 1 else 0) := rfl
    by_cases q : tN E (i : Int) &&& s ≠ 0
    · rw [if_pos q] at b2
      obtain ⟨w1, a1, a2, a3⟩ := C_makesOld h (ok_hl ok s i) (n := (i : Int)) (y := 1) (by omega) (by omega)
      rw [Int.toNat_natCast, hlE_s q, hlW_s q] at a2
      have isr := C_misRight h (ok_hl ok s i) (n := i) (by omega)
      rw [hlE_i] at isr
      obtain ⟨w2, d1, d2, d3⟩ := ih (i + 1) w1 (by omega) a2
      rw [e] at d1
      refine ⟨w2, Z_243_61 h.1 ⟨_, h.top, s32, s32, fun z => by omega, fun _ => ⟨_, b1, _, b2, s64, fun _ => ⟨_, _, _, isr, h.1, fun z => ⟨_, a1, a2.1, ?_⟩, fun z => ⟨_, a1, a2.1, ?_⟩⟩, fun z => absurd z (by decide)⟩⟩, d2, a3.trans d3⟩
      · rw [if_pos ⟨q, z⟩] at d1; exact d1
      · rw [if_neg (fun y => y.2 z)] at d1; exact d1
    · rw [if_neg q] at b2
      have q0 : tN E (i : Int) &&& s = 0 := Decidable.not_not.mp q
      obtain ⟨w2, d1, d2, d3⟩ := ih (i + 1) w (by omega) (by rw [hlE_n q0, hlW_n q0]; exact h)
      rw [e, if_neg (fun y => q y.1), Int.add_zero] at d1
      exact ⟨w2, Z_243_61 h.1 ⟨_, h.top, s32, s32, fun z => by omega, fun _ => ⟨_, b1, _, b2, s64, fun z => absurd rfl z, fun _ => d1⟩⟩, d2, d3⟩
theorem m_heal (ok : okS c E t ws me) {x : Int} (hx : in32 x) : mAns E t ws me (heE E t x) t (heW E t ws x) me 243 [.int (jI x)] (.int (jI (heS E t x))) := by
  intro w h0
  have h := h0.p0 (v := jI 0)
  have s0 : xsame mAll w (pF w 39 0 (.int (jI 0))) := sm_pF (by decide)
  have ht1 := ok.2.1
  unfold heE heW heS
  by_cases a : 0 ≤ x ∧ x ≤ 63
  · rw [if_pos a, if_pos a, if_pos a]
    obtain ⟨w1, a1, a2, a3⟩ := L_243a ok (s := x.toNat) (by omega) (t + 1).toNat 0 _ (by omega) h
    obtain ⟨w2, b1, b2, b3⟩ := L_mheal ok (s := x.toNat) (t + 1).toNat 0 w1 (by omega) (by rw [hlE_0, hlW_0]; exact a1)
    rw [Int.toNat_of_nonneg a.1] at a3 b1
    refine ⟨w2, Z_243 h0.1 (fun w3 e _ => ?_), b2, s0.trans ((a2.mono (by decide)).trans (b3.mono (by decide)))⟩
    subst e
    exact ⟨_, _, _, C_isIn hx s32 s32 _, h.1, fun _ => a3 _ b1, fun q => absurd a q⟩
  · rw [if_neg a, if_neg a, if_neg a]
    refine ⟨_, Z_243 h0.1 (fun w3 e _ => ?_), h, s0⟩
    subst e
    exact ⟨_, _, _, C_isIn hx s32 s32 _, h.1, fun q => absurd q a, fun _ => rfl⟩
end R2
