/-! the calls lay, relay, agree, heal -/
section L1
variable {c : Nat} {E : eT} {t : Int} {ws : Nat → Int} {me : memT} {w : xW}
theorem C_holds {w : xW} (hC : CS w) {E2 : eT} {p : Nat → Prop} (tb : tab3 w 13 p E2) {n : Int} (n0 : 0 ≤ n) (hn : n ≤ 38) (hp : p n.toNat) (b : in64 (E2 n.toNat).1 ∧ in64 (E2 n.toNat).2.1 ∧ in64 (E2 n.toNat).2.2) {e : Int × Int × Int} (f36 : w[36]? = some (frac e.1 e.2.1 e.2.2)) (b' : in64 e.1 ∧ in64 e.2.1 ∧ in64 e.2.2) : xCall 56 [.ref 12, .int (jI n), .ref 36] w (some (.int (bz (E2 n.toNat = e))), w) := by
  have en : ((n.toNat : Nat) : Int) = n := Int.toNat_of_nonneg n0
  have t1 := T_whole (w := w) (e := 12) (n := n.toNat) hC.e12 tb (by omega) hp
  have t2 := T_above (w := w) (e := 12) (n := n.toNat) hC.e12 tb (by omega) hp
  have t3 := T_below (w := w) (e := 12) (n := n.toNat) hC.e12 tb (by omega) hp
  rw [en] at t1 t2 t3
  obtain ⟨g1, g2, g3⟩ := fw0 f36
  refine Z_56 hC (Or.inr (Or.inl rfl)) ⟨_, _, t1, hC, _, g1, b.1, b'.1, fun q => ?_, fun q1 => ⟨_, _, t2, hC, _, g2, b.2.1, b'.2.1, fun q => ?_, fun q2 => ⟨_, _, t3, hC, _, g3, b.2.2, b'.2.2, fun q => ?_, fun q3 => ?_⟩⟩⟩
  · rw [bz_f (fun z => q (by rw [z]))]; rfl
  · rw [bz_f (fun z => q (by rw [z]))]; rfl
  · rw [bz_f (fun z => q (by rw [z]))]; rfl
  · rw [bz_t (Prod.ext q1 (Prod.ext q2 q3))]; rfl
theorem any3 {w : xW} (hC : CS w) {n : Nat} : ∃ E2 : eT, tab3 w 13 (fun k => k = n) E2 ∧ in64 (E2 n).1 ∧ in64 (E2 n).2.1 ∧ in64 (E2 n).2.2 := by
  obtain ⟨f, h1⟩ := kl_13 hC
  obtain ⟨g, h2⟩ := kl_14 hC
  obtain ⟨h, h3⟩ := kl_15 hC
  obtain ⟨x, bx, ex⟩ := jL_of (f n)
  obtain ⟨y, bY, ey⟩ := jL_of (g n)
  obtain ⟨z, bz', ez⟩ := jL_of (h n)
  exact ⟨fun _ => (x, y, z), ⟨f, g, h, h1, h2, h3, fun k hk => by rw [hk]; exact ⟨ex, ey, ez⟩⟩, bx, bY, bz'⟩
theorem C_layOld (h : cst E t ws me w) (ok : okS c E t ws me) {n y : Int} (n0 : 0 ≤ n) (hn : n ≤ t) (hy : 0 ≤ y ∧ y ≤ 2) (al : y = 0 → allR E n.toNat) : ∃ w', xCall 32 [.ref 0, .int (jI n), .int (jI y)] w (some (.int (bz (E n.toNat ≠ rE n.toNat))), w') ∧ cst (updE E n.toNat (rE n.toNat)) t (updW ws n.toNat y) me w' ∧ xsame [3, 4, 5, 6, 13, 14, 15, 22, 36] w w' := by
  have ht := ok.2.2.1
  have hl := ok.2.2.2.2.2.1
  obtain ⟨w1, a1, a2, a3, a4⟩ := C_work h ok n0 (by omega) (by omega) hy al
  have b := ok_e ok n0 hn
  have ho := C_holds a2.1 (p := fun k => (k : Int) ≤ t) a2.2.2.2.2.1 n0 (by omega) (by omega) ⟨b.1, b.2.1, b.2.2.1⟩ (e := rE n.toNat) a4 (rE_bounds (by omega))
  have st := C_storeN a2.1 (q := 36) (by decide) n0 (by omega) a4
  have h2 : cst (updE E n.toNat (rE n.toNat)) t ws me (s3 w1 n.toNat (rE n.toNat).1 (rE n.toNat).2.1 (rE n.toNat).2.2) := c_s3w a2 ht hl (by omega)
  have nw := C_noteWay h2.1 (n := n) (v := y) n0 (by omega)
  have h3 := c_wyw h2 ht hl (n := n.toNat) (v := y) (by omega)
  have sm : xsame [3, 4, 5, 6, 13, 14, 15, 22, 36] w (pI (s3 w1 n.toNat (rE n.toNat).1 (rE n.toNat).2.1 (rE n.toNat).2.2) 22 n.toNat (jI y)) := (a3.mono (by decide)).trans ((s3_sm.mono (by decide)).trans (sm_pI (by decide)))
  refine ⟨_, Z_32 h.1 ⟨_, a1, a2.1, _, _, _, ho, a2.1, fun q => ⟨_, st, h2.1, _, nw, h3.1, ?_⟩, fun q => ⟨_, st, h2.1, _, nw, h3.1, ?_⟩⟩, h3, sm⟩
  · rw [bz_f (fun z => z q)]; rfl
  · rw [bz_t q]; rfl
theorem C_layNew (h : cst E t ws me w) (ok : okS c E t ws me) {n y : Int} (n0 : 0 ≤ n) (hn : n = t + 1) (n38 : n ≤ 38) (hy : 0 ≤ y ∧ y ≤ 2) (al : y = 0 → allR E n.toNat) : ∃ (P : Prop) (_ : Decidable P) (w' : xW), xCall 32 [.ref 0, .int (jI n), .int (jI y)] w (some (.int (bz P)), w') ∧ CS w' ∧ cst (updE E n.toNat (rE n.toNat)) n (updW ws n.toNat y) me (pF w' 0 7 (.int (jI n))) ∧ xsame [3, 4, 5, 6, 13, 14, 15, 22, 36] w w' := by
  have ht := ok.2.2.1
  have hl := ok.2.2.2.2.2.1
  obtain ⟨w1, a1, a2, a3, a4⟩ := C_work h ok n0 (by omega) (by omega) hy al
  obtain ⟨E2, tb, bb⟩ := any3 a2.1 (n := n.toNat)
  have ho := C_holds a2.1 (p := fun k => k = n.toNat) tb n0 (by omega) rfl bb (e := rE n.toNat) a4 (rE_bounds (by omega))
  have st := C_storeN a2.1 (q := 36) (by decide) n0 (by omega) a4
  have c2 : CS (s3 w1 n.toNat (rE n.toNat).1 (rE n.toNat).2.1 (rE n.toNat).2.2) := s3_C a2.1
  have nw := C_noteWay c2 (n := n) (v := y) n0 (by omega)
  have c3 : CS (pI (s3 w1 n.toNat (rE n.toNat).1 (rE n.toNat).2.1 (rE n.toNat).2.2) 22 n.toNat (jI y)) := c2.putI
  have sI : xsame [22] (s3 w1 n.toNat (rE n.toNat).1 (rE n.toNat).2.1 (rE n.toNat).2.2) (pI (s3 w1 n.toNat (rE n.toNat).1 (rE n.toNat).2.1 (rE n.toNat).2.2) 22 n.toNat (jI y)) := sm_pI (by decide)
  have sm : xsame [3, 4, 5, 6, 13, 14, 15, 22, 36] w (pI (s3 w1 n.toNat (rE n.toNat).1 (rE n.toNat).2.1 (rE n.toNat).2.2) 22 n.toNat (jI y)) := (a3.mono (by decide)).trans ((s3_sm.mono (by decide)).trans (sI.mono (by decide)))
  have sF : xsame [0] (pI (s3 w1 n.toNat (rE n.toNat).1 (rE n.toNat).2.1 (rE n.toNat).2.2) 22 n.toNat (jI y)) (pF (pI (s3 w1 n.toNat (rE n.toNat).1 (rE n.toNat).2.1 (rE n.toNat).2.2) 22 n.toNat (jI y)) 0 7 (.int (jI n))) := sm_pF (by decide)
  have fin : cst (updE E n.toNat (rE n.toNat)) n (updW ws n.toNat y) me (pF (pI (s3 w1 n.toNat (rE n.toNat).1 (rE n.toNat).2.1 (rE n.toNat).2.2) 22 n.toNat (jI y)) 0 7 (.int (jI n))) := by
    refine h.upd ht hl ((sm.mono (by decide)).trans (sF.mono (by decide))) (ks_0_7 c3) ((kf_0_7 c3).putI) (fun k hk => ?_) (fun k hk => ?_)
    · by_cases q : k = n.toNat
      · rw [q, updE_at]
        obtain ⟨r1, r2, r3⟩ := s3_get a2.1 (n := n.toNat) (x := (rE n.toNat).1) (y := (rE n.toNat).2.1) (z := (rE n.toNat).2.2) (by omega)
        exact ⟨(r1.sm sI (by decide)).sm sF (by decide), (r2.sm sI (by decide)).sm sF (by decide), (r3.sm sI (by decide)).sm sF (by decide)⟩
      · rw [updE_ne q]
        obtain ⟨u1, u2, u3⟩ := a2.nw ht (n := k) (by omega)
        obtain ⟨r1, r2, r3⟩ := s3_ne (x := (rE n.toNat).1) (y := (rE n.toNat).2.1) (z := (rE n.toNat).2.2) q u1 u2 u3
        exact ⟨(r1.sm sI (by decide)).sm sF (by decide), (r2.sm sI (by decide)).sm sF (by decide), (r3.sm sI (by decide)).sm sF (by decide)⟩
    · by_cases q : k = n.toNat
      · rw [q, updW_at]
        exact (((kl_22 c2).has (by decide) (by omega)).put).sm sF (by decide)
      · rw [updW_ne q]
        exact (((a2.wy ht (n := k) (by omega)).sm s3_sm (by decide)).put q).sm sF (by decide)
  refine ⟨¬ E2 n.toNat = rE n.toNat, inferInstance, _, Z_32 h.1 ⟨_, a1, a2.1, _, _, _, ho, a2.1, fun q => ⟨_, st, c2, _, nw, c3, ?_⟩, fun q => ⟨_, st, c2, _, nw, c3, ?_⟩⟩, c3, fin, sm⟩
  · rw [bz_f (fun z => z q)]; rfl
  · rw [bz_t q]; rfl
/-! lay -/
def laE (E : eT) (t n : Int) : eT := fun k => if t < (k : Int) ∧ (k : Int) ≤ n then rE k else E k
def laW (ws : Nat → Int) (t n y : Int) : Nat → Int := fun k => if t < (k : Int) ∧ (k : Int) ≤ n then y else ws k
theorem laE_0 {n : Int} (h : n ≤ t) : laE E t n = E := by funext k; exact if_neg (by omega)
theorem laW_0 {n y : Int} (h : n ≤ t) : laW ws t n y = ws := by funext k; exact if_neg (by omega)
theorem laE_s {n : Int} (h0 : 0 ≤ n) (h : t < n) : updE (laE E t (n - 1)) n.toNat (rE n.toNat) = laE E t n := by
  funext k
  by_cases q : k = n.toNat
  · rw [q, updE_at]; exact (if_pos (by omega)).symm
  · rw [updE_ne q]
    unfold laE
    by_cases z : t < (k : Int) ∧ (k : Int) ≤ n
    · rw [if_pos z, if_pos (by omega)]
    · rw [if_neg z, if_neg (by omega)]
theorem laW_s {n y : Int} (h0 : 0 ≤ n) (h : t < n) : updW (laW ws t (n - 1) y) n.toNat y = laW ws t n y := by
  funext k
  by_cases q : k = n.toNat
  · rw [q, updW_at]; exact (if_pos (by omega)).symm
  · rw [updW_ne q]
    unfold laW
    by_cases z : t < (k : Int) ∧ (k : Int) ≤ n
    · rw [if_pos z, if_pos (by omega)]
    · rw [if_neg z, if_neg (by omega)]
theorem ok_la (ok : okS c E t ws me) {n y : Int} (h1 : t ≤ n) (h2 : n ≤ 38) (hy : 0 ≤ y ∧ y ≤ 2) : okS c (laE E t n) n (laW ws t n y) me := by
  refine ⟨ok.1, by have := ok.2.1; omega, h2, fun k hk => ?_, fun k hk => ?_, ok.2.2.2.2.2.1, fun q hq => ?_⟩
  · unfold laE
    by_cases z : t < (k : Int) ∧ (k : Int) ≤ n
    · rw [if_pos z]; exact rE_ok (by omega) c
    · rw [if_neg z]; exact ok.2.2.2.1 k (by omega)
  · unfold laW
    by_cases z : t < (k : Int) ∧ (k : Int) ≤ n
    · rw [if_pos z]; exact ⟨hy.1, by omega⟩
    · rw [if_neg z]; exact ok.2.2.2.2.1 k (by omega)
  · have := ok.2.2.2.2.2.2 q hq
    exact ⟨this.1, by omega, this.2.2⟩
theorem al_la {n : Int} (h1 : t ≤ n) (h : allR E (t + 1).toNat) : allR (laE E t n) (n + 1).toNat := by
  intro k hk
  unfold laE
  by_cases z : t < (k : Int) ∧ (k : Int) ≤ n
  · rw [if_pos z]
  · rw [if_neg z]; exact h k (by omega)
abbrev lyOK (E : eT) (t n y : Int) : Prop := ((0 ≤ n ∧ n ≤ 38) ∧ (0 ≤ y ∧ y ≤ 2)) ∧ (y = 0 → allRb E (t + 1).toNat = true)
def lyT (E : eT) (t n y : Int) : Int := if lyOK E t n y ∧ t < n then n else t
def lyE (E : eT) (t n y : Int) : eT := laE E t (lyT E t n y)
def lyW (E : eT) (t : Int) (ws : Nat → Int) (n y : Int) : Nat → Int := laW ws t (lyT E t n y) y
def lyS (E : eT) (t n y : Int) : Int := if (0 ≤ n ∧ n ≤ 38) ∧ (0 ≤ y ∧ y ≤ 2) then (if y = 0 → allRb E (t + 1).toNat = true then (if t < n then n - t else 0) else -3) else -1
theorem ok_ly (ok : okS c E t ws me) (n y : Int) : okS c (lyE E t n y) (lyT E t n y) (lyW E t ws n y) me := by
  unfold lyE lyW
  by_cases a : lyOK E t n y ∧ t < n
  · rw [show lyT E t n y = n from if_pos a]
    exact ok_la ok (by omega) a.1.1.1.2 a.1.1.2
  · rw [show lyT E t n y = t from if_neg a, laE_0 (Int.le_refl t), laW_0 (Int.le_refl t)]
    exact ok
theorem L_lay (ok : okS c E t ws me) {n y : Int} (hn : n ≤ 38) (hy : 0 ≤ y ∧ y ≤ 2) (al : y = 0 → allR E (t + 1).toNat) : ∀ (k : Nat) (u : Int) (w : xW), u + k = n → t ≤ u → cst (laE E t u) u (laW ws t u y) me w →
    ∃ w', xGo 23 46 [some (.ref 0), some (.int (jI n)), some (.int (jI y)), some (.int (jI (u - t))), some (.int (jI (u + 1)))] [] w (some (.int (jI (n - t))), w') ∧ cst (laE E t n) n (laW ws t n y) me w' ∧ xsame [0, 3, 4, 5, 6, 13, 14, 15, 22, 36] w w' := by
  have ht1 := ok.2.1
  have ht := ok.2.2.1
  intro k
  induction k with
  | zero =>
    intro u w hu tu h
    have e : u = n := by omega
    subst e
    exact ⟨w, Z_23_46 h.1 ⟨s32, s32, fun _ => rfl, fun q => by omega⟩, h, xsame.rf⟩
  | succ k ih =>
    intro u w hu tu h
    have okU := ok_la ok (n := u) (y := y) tu (by omega) hy
    obtain ⟨P, dP, w1, a1, a2, a3, a4⟩ := C_layNew h okU (n := u + 1) (y := y) (by omega) rfl (by omega) hy (fun q => al_la tu (al q))
    have e1 := laE_s (E := E) (t := t) (n := u + 1) (by omega) (by omega)
    have e2 := laW_s (ws := ws) (t := t) (n := u + 1) (y := y) (by omega) (by omega)
    rw [show u + 1 - 1 = u by omega] at e1 e2
    rw [e1, e2] at a3
    obtain ⟨w2, b1, b2, b3⟩ := ih (u + 1) _ (by omega) (by omega) a3
    rw [show u + 1 - t = u - t + 1 by omega] at b1
    refine ⟨w2, Z_23_46 h.1 ⟨s32, s32, fun q => by omega, fun _ => ⟨P, dP, w1, a1, a2, fun w9 e9 _ => ?_⟩⟩, b2, (a4.mono (by decide)).trans ((sm_pF (by decide)).trans b3)⟩
    rw [e9]; exact b1
theorem c_lay (ok : okS c E t ws me) {n y : Int} (hn : in32 n) (hy : in32 y) : cAns E t ws me (lyE E t n y) (lyT E t n y) (lyW E t ws n y) me 23 [.int (jI n), .int (jI y)] (.int (jI (lyS E t n y))) := by
  intro w h
  have ht1 := ok.2.1
  have ht := ok.2.2.1
  have stay : ¬ (lyOK E t n y ∧ t < n) → cst (lyE E t n y) (lyT E t n y) (lyW E t ws n y) me w := by
    intro a
    unfold lyE lyW
    rw [show lyT E t n y = t from if_neg a, laE_0 (Int.le_refl t), laW_0 (Int.le_refl t)]
    exact h
  have alr := C_allRight h ok (n := (t + 1).toNat) (by omega)
  rw [Int.toNat_of_nonneg (show 0 ≤ t + 1 by omega)] at alr
  by_cases v : (0 ≤ n ∧ n ≤ 38) ∧ (0 ≤ y ∧ y ≤ 2)
  · by_cases al : y = 0 → allRb E (t + 1).toNat = true
    · obtain ⟨w2, b1, b2, b3⟩ : ∃ w2, xGo 23 46 [some (.ref 0), some (.int (jI n)), some (.int (jI y)), some (.int (jI 0)), some (.int (jI (t + 1)))] [] w (some (.int (jI (lyS E t n y))), w2) ∧ cst (lyE E t n y) (lyT E t n y) (lyW E t ws n y) me w2 ∧ xsame cAll w w2 := by
        by_cases tn : t < n
        · have h0 : cst (laE E t t) t (laW ws t t y) me w := by rw [laE_0 (Int.le_refl t), laW_0 (Int.le_refl t)]; exact h
          obtain ⟨w2, b1, b2, b3⟩ := L_lay ok v.1.2 v.2 (fun q => allRb_iff.mp (al q)) (n - t).toNat t w (by omega) (Int.le_refl t) h0
          have eT : lyT E t n y = n := if_pos ⟨⟨v, al⟩, tn⟩
          refine ⟨w2, ?_, ?_, b3.mono (by decide)⟩
          · rw [show lyS E t n y = n - t by unfold lyS; rw [if_pos v, if_pos al, if_pos tn]]
            rw [show t - t = 0 by omega] at b1
            exact b1
          · unfold lyE lyW
            rw [eT]
            exact b2
        · refine ⟨w, ?_, stay (fun q => tn q.2), xsame.rf⟩
          rw [show lyS E t n y = 0 by unfold lyS; rw [if_pos v, if_pos al, if_neg tn]]
          exact Z_23_46 h.1 ⟨s32, s32, fun _ => rfl, fun q => by omega⟩
      exact ⟨w2, Z_23 h.1 ⟨_, _, _, C_isEntry hn w, h.1, fun q => absurd v.1 q, fun _ => ⟨_, _, _, C_isWay hy w, h.1, fun _ => ⟨hy, fun q => ⟨_, h.top, b1⟩, fun q => ⟨_, h.top, _, _, _, alr, h.1, fun _ => ⟨_, h.top, b1⟩, fun z => absurd (al q) z⟩⟩, fun q => absurd v.2 q⟩⟩, b2, b3⟩
    · refine ⟨w, ?_, stay (fun q => al q.1.2), xsame.rf⟩
      have y0 : y = 0 := Decidable.not_not.mp (fun z => al (fun q => absurd q z))
      have na : ¬ allRb E (t + 1).toNat = true := fun z => al (fun _ => z)
      rw [show lyS E t n y = -3 by unfold lyS; rw [if_pos v, if_neg al]]
      exact Z_23 h.1 ⟨_, _, _, C_isEntry hn w, h.1, fun q => absurd v.1 q, fun _ => ⟨_, _, _, C_isWay hy w, h.1, fun _ => ⟨hy, fun q => absurd y0 q, fun q => ⟨_, h.top, _, _, _, alr, h.1, fun z => absurd z na, fun _ => rfl⟩⟩, fun q => absurd v.2 q⟩⟩
  · refine ⟨w, ?_, stay (fun q => v q.1.1), xsame.rf⟩
    rw [show lyS E t n y = -1 from if_neg v]
    exact Z_23 h.1 ⟨_, _, _, C_isEntry hn w, h.1, fun _ => rfl, fun q => ⟨_, _, _, C_isWay hy w, h.1, fun q2 => absurd ⟨q, q2⟩ v, fun _ => rfl⟩⟩
/-! the model's -/
theorem L_areRight (h : mst E t ws me w) (ok : okS c E t ws me) {z : Int} (hz : z ≤ t) (z1 : -1 ≤ z) : ∀ (k i : Nat), (i : Int) + k = z + 1 → allR E i →
    xGo 200 2 [some (.ref 39), some (.int (jI z)), some (.int (jI (i : Int)))] [] w (some (.int (bz (allRb E (z + 1).toNat = true))), w) := by
  have ht := ok.2.2.1
  intro k
  induction k with
  | zero =>
    intro i hi H
    refine Z_200_2 h.1 ⟨s32, s32, fun _ => ?_, fun q => by omega⟩
    rw [bz_t (by rw [show (z + 1).toNat = i by omega]; exact allRb_iff.mpr H)]; rfl
  | succ k ih =>
    intro i hi H
    refine Z_200_2 h.1 ⟨s32, s32, fun q => by omega, fun _ => ⟨_, _, _, C_misRight h ok (by omega), h.1, fun q => ih (i + 1) (by omega) (fun j hj => ?_), fun q => ?_⟩⟩
    · by_cases e : j = i
      · rw [e]; exact q
      · exact H j (by omega)
    · rw [bz_f (fun y => q (allRb_iff.mp y i (by omega)))]; rfl
theorem C_areRight (h : mst E t ws me w) (ok : okS c E t ws me) {z : Int} (hz : z ≤ t) (z1 : -1 ≤ z) : xCall 200 [.ref 39, .int (jI z)] w (some (.int (bz (allRb E (z + 1).toNat = true))), w) :=
  Z_200 h.1 (L_areRight h ok hz z1 (z + 1).toNat 0 (by omega) (fun j hj => by omega))
theorem C_makes {w : xW} (hC : CS w) {n y : Int} (n0 : 0 ≤ n) (hn : n ≤ 38) {e : Int × Int × Int} (r0 : rL w 40 (3 * n).toNat e.1) (r1 : rL w 40 (3 * n + 1).toNat e.2.1) (r2 : rL w 40 (3 * n + 2).toNat e.2.2) : xCall 202 [.ref 39, .int (jI n), .int (jI y)] w (none, pI (l3 w 41 n.toNat e.1 e.2.1 e.2.2) 42 n.toNat (jI y)) := by
  have l := C_lays hC (a := 41) (N := 117) (n := n) (x := e.1) (y := e.2.1) (z := e.2.2) (kl_41 hC) (by decide) n0 (by omega)
  exact Z_202 hC ⟨by omega, _, r0, by omega, _, r1, by omega, _, r2, _, l, l3_C hC, ⟨n0, by omega⟩, fun w15 e15 _ => by rw [e15]⟩
theorem C_makesOld (h : mst E t ws me w) (ok : okS c E t ws me) {n y : Int} (n0 : 0 ≤ n) (hn : n ≤ t) : ∃ w', xCall 202 [.ref 39, .int (jI n), .int (jI y)] w (none, w') ∧ mst (updE E n.toNat (rE n.toNat)) t (updW ws n.toNat y) me w' ∧ xsame [41, 42] w w' := by
  have ht := ok.2.2.1
  have hl := ok.2.2.2.2.2.1
  obtain ⟨r0, r1, r2⟩ := M_rt h (n := n) n0 (by omega) rfl
  have mk := C_makes h.1 (y := y) n0 (by omega) (e := rE n.toNat) r0 r1 r2
  exact ⟨_, mk, m_wyw (h.l3w ht hl (by omega)) ht hl (by omega), (l3_sm.mono (by decide)).trans (sm_pI (by decide))⟩
theorem L_mlay (ok : okS c E t ws me) {n y : Int} (hn : n ≤ 38) (hy : 0 ≤ y ∧ y ≤ 2) : ∀ (k : Nat) (u : Int) (w : xW), u + k = n → t ≤ u → mst (laE E t u) u (laW ws t u y) me w →
    ∃ w', xGo 197 44 [some (.ref 39), some (.int (jI n)), some (.int (jI y)), some (.int (jI (u - t)))] [] w (some (.int (jI (n - t))), w') ∧ mst (laE E t n) n (laW ws t n y) me w' ∧ xsame [39, 41, 42] w w' := by
  have ht1 := ok.2.1
  have ht := ok.2.2.1
  intro k
  induction k with
  | zero =>
    intro u w hu tu h
    have e : u = n := by omega
    subst e
    exact ⟨w, Z_197_44 h.1 ⟨_, h.top, s32, s32, fun _ => rfl, fun q => by omega⟩, h, xsame.rf⟩
  | succ k ih =>
    intro u w hu tu h
    have okU := ok_la ok (n := u) (y := y) tu (by omega) hy
    have hl := okU.2.2.2.2.2.1
    have hu38 := okU.2.2.1
    have c1 : CS (pF w 39 4 (.int (jI (u + 1)))) := ks_39_4 h.1
    have s1 : xsame [39] w (pF w 39 4 (.int (jI (u + 1)))) := sm_pF (by decide)
    have tp : fI (pF w 39 4 (.int (jI (u + 1)))) 39 12 4 (u + 1) := (kf_39_4 h.1).putI
    obtain ⟨r0, r1, r2⟩ := M_rt h (n := u + 1) (by omega) (by omega) rfl
    have mk := C_makes c1 (n := u + 1) (y := y) (by omega) (by omega) (e := rE (u + 1).toNat) (r0.sm s1 (by decide)) (r1.sm s1 (by decide)) (r2.sm s1 (by decide))
    have sl : xsame [41] (pF w 39 4 (.int (jI (u + 1)))) (l3 (pF w 39 4 (.int (jI (u + 1)))) 41 (u + 1).toNat (rE (u + 1).toNat).1 (rE (u + 1).toNat).2.1 (rE (u + 1).toNat).2.2) := l3_sm
    have cl : CS (l3 (pF w 39 4 (.int (jI (u + 1)))) 41 (u + 1).toNat (rE (u + 1).toNat).1 (rE (u + 1).toNat).2.1 (rE (u + 1).toNat).2.2) := l3_C c1
    have si : xsame [42] (l3 (pF w 39 4 (.int (jI (u + 1)))) 41 (u + 1).toNat (rE (u + 1).toNat).1 (rE (u + 1).toNat).2.1 (rE (u + 1).toNat).2.2) (pI (l3 (pF w 39 4 (.int (jI (u + 1)))) 41 (u + 1).toNat (rE (u + 1).toNat).1 (rE (u + 1).toNat).2.1 (rE (u + 1).toNat).2.2) 42 (u + 1).toNat (jI y)) := sm_pI (by decide)
    have sm := (s1.mono (S' := [39, 41, 42]) (by decide)).trans ((sl.mono (by decide)).trans (si.mono (by decide)))
    have fin : mst (updE (laE E t u) (u + 1).toNat (rE (u + 1).toNat)) (u + 1) (updW (laW ws t u y) (u + 1).toNat y) me (pI (l3 (pF w 39 4 (.int (jI (u + 1)))) 41 (u + 1).toNat (rE (u + 1).toNat).1 (rE (u + 1).toNat).2.1 (rE (u + 1).toNat).2.2) 42 (u + 1).toNat (jI y)) := by
      refine h.upd hu38 hl (sm.mono (by decide)) cl.putI ((tp.sm sl (by decide)).sm si (by decide)) (((h.pm.put (by decide)).sm sl (by decide)).sm si (by decide)) (((h.mz.put (by decide)).sm sl (by decide)).sm si (by decide)) (fun k hk => ?_) (fun k hk => ?_)
      · by_cases q : k = (u + 1).toNat
        · rw [q, updE_at]
          obtain ⟨g1, g2, g3⟩ := l3_get (w := pF w 39 4 (.int (jI (u + 1)))) (a := 41) (n := (u + 1).toNat) (x := (rE (u + 1).toNat).1) (y := (rE (u + 1).toNat).2.1) (z := (rE (u + 1).toNat).2.2) (kl_41 c1) (by decide) (by omega)
          exact ⟨g1.sm si (by decide), g2.sm si (by decide), g3.sm si (by decide)⟩
        · rw [updE_ne q]
          obtain ⟨v1, v2, v3⟩ := h.nw hu38 (n := k) (by omega)
          exact ⟨(l3_ne (v1.sm s1 (by decide)) (by omega) (by omega) (by omega)).sm si (by decide), (l3_ne (v2.sm s1 (by decide)) (by omega) (by omega) (by omega)).sm si (by decide), (l3_ne (v3.sm s1 (by decide)) (by omega) (by omega) (by omega)).sm si (by decide)⟩
      · by_cases q : k = (u + 1).toNat
        · rw [q, updW_at]
          exact ((kl_42 cl).has (by decide) (by omega)).put
        · rw [updW_ne q]
          exact (((h.wy hu38 (n := k) (by omega)).sm s1 (by decide)).sm sl (by decide)).put q
    have e1 := laE_s (E := E) (t := t) (n := u + 1) (by omega) (by omega)
    have e2 := laW_s (ws := ws) (t := t) (n := u + 1) (y := y) (by omega) (by omega)
    rw [show u + 1 - 1 = u by omega] at e1 e2
    rw [e1, e2] at fin
    obtain ⟨w2, b1, b2, b3⟩ := ih (u + 1) _ (by omega) (by omega) fin
    rw [show u + 1 - t = u - t + 1 by omega] at b1
    refine ⟨w2, Z_197_44 h.1 ⟨_, h.top, s32, s32, fun q => by omega, fun _ w6 e6 _ => ?_⟩, b2, sm.trans b3⟩
    rw [e6]
    exact ⟨_, tp, _, mk, fin.1, b1⟩
theorem m_lay (ok : okS c E t ws me) {n y : Int} (hn : in32 n) (hy : in32 y) : mAns E t ws me (lyE E t n y) (lyT E t n y) (lyW E t ws n y) me 197 [.int (jI n), .int (jI y)] (.int (jI (lyS E t n y))) := by
  intro w h0
  have h := h0.p0 (v := jI 0)
  have s0 : xsame mAll w (pF w 39 0 (.int (jI 0))) := sm_pF (by decide)
  have ht1 := ok.2.1
  have ht := ok.2.2.1
  have stay : ¬ (lyOK E t n y ∧ t < n) → mst (lyE E t n y) (lyT E t n y) (lyW E t ws n y) me (pF w 39 0 (.int (jI 0))) := by
    intro a
    unfold lyE lyW
    rw [show lyT E t n y = t from if_neg a, laE_0 (Int.le_refl t), laW_0 (Int.le_refl t)]
    exact h
  have alr := C_areRight h ok (z := t) (Int.le_refl t) ht1
  by_cases v : (0 ≤ n ∧ n ≤ 38) ∧ (0 ≤ y ∧ y ≤ 2)
  · by_cases al : y = 0 → allRb E (t + 1).toNat = true
    · obtain ⟨w2, b1, b2, b3⟩ : ∃ w2, xGo 197 44 [some (.ref 39), some (.int (jI n)), some (.int (jI y)), some (.int (jI 0))] [] (pF w 39 0 (.int (jI 0))) (some (.int (jI (lyS E t n y))), w2) ∧ mst (lyE E t n y) (lyT E t n y) (lyW E t ws n y) me w2 ∧ xsame mAll (pF w 39 0 (.int (jI 0))) w2 := by
        by_cases tn : t < n
        · have hh : mst (laE E t t) t (laW ws t t y) me (pF w 39 0 (.int (jI 0))) := by rw [laE_0 (Int.le_refl t), laW_0 (Int.le_refl t)]; exact h
          obtain ⟨w2, b1, b2, b3⟩ := L_mlay ok v.1.2 v.2 (n - t).toNat t _ (by omega) (Int.le_refl t) hh
          have eT : lyT E t n y = n := if_pos ⟨⟨v, al⟩, tn⟩
          refine ⟨w2, ?_, ?_, b3.mono (by decide)⟩
          · rw [show lyS E t n y = n - t by unfold lyS; rw [if_pos v, if_pos al, if_pos tn]]
            rw [show t - t = 0 by omega] at b1
            exact b1
          · unfold lyE lyW
            rw [eT]
            exact b2
        · refine ⟨_, ?_, stay (fun q => tn q.2), xsame.rf⟩
          rw [show lyS E t n y = 0 by unfold lyS; rw [if_pos v, if_pos al, if_neg tn]]
          exact Z_197_44 h.1 ⟨_, h.top, s32, s32, fun _ => rfl, fun q => by omega⟩
      refine ⟨w2, Z_197 h0.1 (fun w3 e _ => ?_), b2, s0.trans b3⟩
      subst e
      exact ⟨_, _, _, C_misEntry hn _, h.1, fun q => absurd v.1 q, fun _ => ⟨_, _, _, C_isIn hy s32 s32 _, h.1, fun _ => ⟨hy, fun q => b1, fun q => ⟨_, h.top, _, _, _, alr, h.1, fun _ => b1, fun z => absurd (al q) z⟩⟩, fun q => absurd v.2 q⟩⟩
    · refine ⟨_, Z_197 h0.1 (fun w3 e _ => ?_), stay (fun q => al q.1.2), s0⟩
      subst e
      have y0 : y = 0 := Decidable.not_not.mp (fun z => al (fun q => absurd q z))
      have na : ¬ allRb E (t + 1).toNat = true := fun z => al (fun _ => z)
      rw [show lyS E t n y = -3 by unfold lyS; rw [if_pos v, if_neg al]]
      exact ⟨_, _, _, C_misEntry hn _, h.1, fun q => absurd v.1 q, fun _ => ⟨_, _, _, C_isIn hy s32 s32 _, h.1, fun _ => ⟨hy, fun q => absurd y0 q, fun q => ⟨_, h.top, _, _, _, alr, h.1, fun z => absurd z na, fun _ => rfl⟩⟩, fun q => absurd v.2 q⟩⟩
  · refine ⟨_, Z_197 h0.1 (fun w3 e _ => ?_), stay (fun q => v q.1.1), s0⟩
    subst e
    rw [show lyS E t n y = -1 from if_neg v]
    exact ⟨_, _, _, C_misEntry hn _, h.1, fun _ => rfl, fun q => ⟨_, _, _, C_isIn hy s32 s32 _, h.1, fun q2 => absurd ⟨q, q2⟩ v, fun _ => rfl⟩⟩
end L1
