/-! byWay, nothings, irregular, pair, second, regulars: the model's side -/
theorem nzC_pO (p : Nat) : ∀ i : Nat, nzC p i = ((pO p i).length : Int)
  | 0 => rfl
  | i + 1 => by
    have ih := nzC_pO p i
    show nzC p i + (if bwS p (2 * i + 2) = 0 then 1 else 0) = ((pO p i ++ (if bwS p (2 * i + 2) = 0 then [(p, 2 * i + 2)] else [])).length : Int)
    rw [List.length_append, ih]
    split <;> simp
theorem nzC_ir {p : Nat} (hp : p ∈ prN) : nzC p ((p - 3) / 2) = (irC p : Int) := by
  rw [nzC_pO, pO_9 p hp]; rfl
theorem pO_pre (p : Nat) : ∀ d i : Nat, ∃ l, pO p (i + d) = pO p i ++ l
  | 0, i => ⟨[], by rw [List.append_nil]; rfl⟩
  | d + 1, i => by
    obtain ⟨l, hl⟩ := pO_pre p d i
    refine ⟨l ++ (if bwS p (2 * (i + d) + 2) = 0 then [(p, 2 * (i + d) + 2)] else []), ?_⟩
    show pO p (i + d) ++ _ = _
    rw [hl, List.append_assoc]
    rfl
theorem p9_pre : ∀ s : Nat, s < 46 → prs9 = p9 s ++ prs9.drop (p9 s).length := by decide +kernel
theorem prZ_s : ∀ s : Nat, s < 45 → (prZ (s + 1)).toNat ∈ prN ∧ (((prZ (s + 1)).toNat : Nat) : Int) = prZ (s + 1) := by decide
theorem p9_st {s : Nat} (hs : s < 45) : p9 (s + 1) = p9 s ++ pO (prZ (s + 1)).toNat (((prZ (s + 1)).toNat - 3) / 2) := by
  rw [p9_s s hs, pO_9 _ (prZ_s s hs).1]
theorem pr_hit {s m : Nat} (hs : s < 45) (hm : 2 * m + 2 + 3 ≤ (prZ (s + 1)).toNat) (hb : bwS (prZ (s + 1)).toNat (2 * m + 2) = 0) : prs9[(p9 s).length + (pO (prZ (s + 1)).toNat m).length]? = some ((prZ (s + 1)).toNat, 2 * m + 2) := by
  obtain ⟨l, hl⟩ := pO_pre (prZ (s + 1)).toNat (((prZ (s + 1)).toNat - 3) / 2 - (m + 1)) (m + 1)
  rw [show m + 1 + (((prZ (s + 1)).toNat - 3) / 2 - (m + 1)) = ((prZ (s + 1)).toNat - 3) / 2 by omega] at hl
  have e1 : pO (prZ (s + 1)).toNat (m + 1) = pO (prZ (s + 1)).toNat m ++ [((prZ (s + 1)).toNat, 2 * m + 2)] := by
    show _ ++ (if bwS (prZ (s + 1)).toNat (2 * m + 2) = 0 then [((prZ (s + 1)).toNat, 2 * m + 2)] else []) = _
    rw [if_pos hb]
  rw [p9_pre (s + 1) (by omega), p9_st hs, hl, e1, List.append_assoc, List.append_assoc, List.append_assoc]
  rw [List.getElem?_append_right (by omega), List.getElem?_append_right (by omega)]
  rw [show (p9 s).length + (pO (prZ (s + 1)).toNat m).length - (p9 s).length - (pO (prZ (s + 1)).toNat m).length = 0 by omega]
  rfl
section M9
variable {c : Nat} {E : eT} {t : Int} {ws : Nat → Int} {me : memT} {w : xW}
theorem m_byWay {p y n : Int} (hp : in32 p) (hy : in32 y) (hn : in32 n) : mAns E t ws me E t ws me 250 [.int (jI p), .int (jI y), .int (jI n)] (.int (jI (bwA p y n))) := by
  intro w0 h0
  have h := h0.p0 (v := jI 0)
  have hs : xsame [39] w0 (pF w0 39 0 (.int (jI 0))) := sm_pF (by decide)
  by_cases v : isPr p ∧ (0 ≤ y ∧ y ≤ 2) ∧ (0 ≤ n ∧ n ≤ p - 2)
  · have pb := prN_b _ v.1.2
    have ep : ((p.toNat : Nat) : Int) = p := Int.toNat_of_nonneg v.1.1
    obtain ⟨w1, a1, a2, a3, a4⟩ := C_laysWay h.1 v.1.2 v.2.1
    have r := a4 n.toNat (by omega)
    rw [ep] at a1
    rw [show bwA p y n = _ from if_pos v]
    exact ⟨w1, Z_250 h0.1 (fun w2 e2 hC2 => by
      rw [e2]
      exact ⟨_, _, _, C_misPrime h hp, h.1, fun q => absurd v.1 q, fun _ => ⟨_, _, _, C_isIn hy s32 s32 _, h.1, fun q => absurd v.2.1 q, fun _ => ⟨_, _, _, C_isIn hn s32 s32 _, h.1, fun _ => ⟨_, a1, a2, v.2.2.1, _, r, rfl⟩, fun q => absurd v.2.2 q⟩⟩⟩), h.same a3 (by decide) a2, (hs.mono (by decide)).trans (a3.mono (by decide))⟩
  · rw [show bwA p y n = -1 from if_neg v]
    exact ⟨pF w0 39 0 (.int (jI 0)), Z_250 h0.1 (fun w2 e2 hC2 => by
      rw [e2]
      exact ⟨_, _, _, C_misPrime h hp, h.1, fun _ => rfl, fun q1 => ⟨_, _, _, C_isIn hy s32 s32 _, h.1, fun _ => rfl, fun q2 => ⟨_, _, _, C_isIn hn s32 ⟨by have := q1.1; omega, by have := hp.2; omega⟩ _, h.1, fun q3 => absurd ⟨q1, q2, q3⟩ v, fun _ => rfl⟩⟩⟩), h, hs.mono (by decide)⟩
theorem L_256 {w : xW} (hC : CS w) {p : Nat} {y : Int} (hp : p ∈ prN) (H : ∀ i, i + 2 ≤ p → rI w 51 i ((bwS p i : Nat) : Int)) : ∀ (k i : Nat), i + k = (p - 3) / 2 →
    xGo 256 35 [some (.ref 39), some (.int (jI (p : Int))), some (.int (jI y)), some (.int (jI (nzC p i))), some (.int (jI ((2 * i + 2 : Nat) : Int)))] [] w (some (.int (jI (nzC p ((p - 3) / 2)))), w) := by
  have pb := prN_b p hp
  have po := pr_odd hp
  intro k
  induction k with
  | zero =>
    intro i hi
    have e : i = (p - 3) / 2 := by omega
    subst e
    exact Z_256_35 hC ⟨s32, s32, fun _ => rfl, fun q => by omega⟩
  | succ k ih =>
    intro i hi
    have g := ih (i + 1) (by omega)
    have e : nzC p (i + 1) = nzC p i + (if bwS p (2 * i + 2) = 0 then 1 else 0) := rfl
    have r := H (2 * i + 2) (by omega)
    have bl := bw_lt (n := 2 * i + 2) hp
    rw [e, show ((2 * (i + 1) + 2 : Nat) : Int) = ((2 * i + 2 : Nat) : Int) + 2 by omega] at g
    refine Z_256_35 hC ⟨s32, s32, fun q => by omega, fun _ => ⟨by omega, _, r, ⟨by omega, by omega⟩, fun q => ?_, fun q => ?_⟩⟩
    · rw [if_neg (by omega)] at g; exact g
    · rw [if_pos (by omega)] at g; exact g
theorem m_nothings {p y : Int} (hp : in32 p) (hy : in32 y) : mAns E t ws me E t ws me 256 [.int (jI p), .int (jI y)] (.int (jI (nzS p y))) := by
  intro w0 h0
  have h := h0.p0 (v := jI 0)
  have hs : xsame [39] w0 (pF w0 39 0 (.int (jI 0))) := sm_pF (by decide)
  by_cases v : isPr p ∧ (0 ≤ y ∧ y ≤ 2)
  · have ep : ((p.toNat : Nat) : Int) = p := Int.toNat_of_nonneg v.1.1
    obtain ⟨w1, a1, a2, a3, a4⟩ := C_laysWay h.1 v.1.2 v.2
    have l := L_256 a2 (y := y) v.1.2 a4 ((p.toNat - 3) / 2) 0 (by omega)
    rw [ep] at a1 l
    rw [show nzS p y = _ from if_pos v]
    exact ⟨w1, Z_256 h0.1 (fun w2 e2 hC2 => by
      rw [e2]
      exact ⟨_, _, _, C_misPrime h hp, h.1, fun q => absurd v.1 q, fun _ => ⟨_, _, _, C_isIn hy s32 s32 _, h.1, fun _ => ⟨_, a1, a2, l⟩, fun q => absurd v.2 q⟩⟩), h.same a3 (by decide) a2, (hs.mono (by decide)).trans (a3.mono (by decide))⟩
  · rw [show nzS p y = -1 from if_neg v]
    exact ⟨pF w0 39 0 (.int (jI 0)), Z_256 h0.1 (fun w2 e2 hC2 => by
      rw [e2]
      exact ⟨_, _, _, C_misPrime h hp, h.1, fun _ => rfl, fun q1 => ⟨_, _, _, C_isIn hy s32 s32 _, h.1, fun q2 => absurd ⟨q1, q2⟩ v, fun _ => rfl⟩⟩), h, hs.mono (by decide)⟩
theorem L_258 {w : xW} (hC : CS w) {p : Nat} (hp : p ∈ prN) (H : ∀ i, i + 3 ≤ p → rI w 49 i ((bwS p i : Nat) : Int)) : ∀ (k i : Nat), i + k = (p - 3) / 2 →
    xGo 258 9 [some (.ref 39), some (.int (jI (p : Int))), some (.int (jI (nzC p i))), some (.int (jI ((2 * i + 2 : Nat) : Int)))] [] w (some (.int (jI (nzC p ((p - 3) / 2)))), w) := by
  have pb := prN_b p hp
  have po := pr_odd hp
  intro k
  induction k with
  | zero =>
    intro i hi
    have e : i = (p - 3) / 2 := by omega
    subst e
    exact Z_258_9 hC ⟨s32, s32, fun _ => rfl, fun q => by omega⟩
  | succ k ih =>
    intro i hi
    have g := ih (i + 1) (by omega)
    have e : nzC p (i + 1) = nzC p i + (if bwS p (2 * i + 2) = 0 then 1 else 0) := rfl
    have r := H (2 * i + 2) (by omega)
    have bl := bw_lt (n := 2 * i + 2) hp
    rw [e, show ((2 * (i + 1) + 2 : Nat) : Int) = ((2 * i + 2 : Nat) : Int) + 2 by omega] at g
    refine Z_258_9 hC ⟨s32, s32, fun q => by omega, fun _ => ⟨by omega, _, r, ⟨by omega, by omega⟩, fun q => ?_, fun q => ?_⟩⟩
    · rw [if_neg (by omega)] at g; exact g
    · rw [if_pos (by omega)] at g; exact g
theorem C_irrOf {w : xW} (hC : CS w) {p : Nat} (hp : p ∈ prN) : ∃ w', xCall 258 [.ref 39, .int (jI (p : Int))] w (some (.int (jI (irC p : Int))), w') ∧ CS w' ∧ xsame [49, 50] w w' := by
  obtain ⟨w1, a1, a2, a3, a4⟩ := C_laysRests hC hp
  have l := L_258 a2 hp a4 ((p - 3) / 2) 0 (by omega)
  rw [nzC_ir hp] at l
  exact ⟨w1, Z_258 hC ⟨_, a1, a2, l⟩, a2, a3⟩
theorem m_irregular {p : Int} (hp : in32 p) : mAns E t ws me E t ws me 257 [.int (jI p)] (.int (jI (igS p))) := by
  intro w0 h0
  have h := h0.p0 (v := jI 0)
  have hs : xsame [39] w0 (pF w0 39 0 (.int (jI 0))) := sm_pF (by decide)
  by_cases v : isPr p
  · have ep : ((p.toNat : Nat) : Int) = p := Int.toNat_of_nonneg v.1
    obtain ⟨w1, a1, a2, a3⟩ := C_irrOf h.1 v.2
    rw [ep] at a1
    rw [show igS p = _ from if_pos v]
    exact ⟨w1, Z_257 h0.1 (fun w2 e2 hC2 => by
      rw [e2]
      exact ⟨_, _, _, C_misPrime h hp, h.1, fun q => absurd v q, fun _ => ⟨_, _, a1, a2, rfl⟩⟩), h.same a3 (by decide) a2, (hs.mono (by decide)).trans (a3.mono (by decide))⟩
  · rw [show igS p = _ from if_neg v]
    exact ⟨pF w0 39 0 (.int (jI 0)), Z_257 h0.1 (fun w2 e2 hC2 => by
      rw [e2]
      exact ⟨_, _, _, C_misPrime h hp, h.1, fun _ => rfl, fun q => absurd q v⟩), h, hs.mono (by decide)⟩
theorem L_270 {z : Int} (hz : in32 z) : ∀ (k i : Nat) (w : xW), i + k = 46 → 1 ≤ i → mst E t ws me w →
    ∃ w', xGo 270 22 [some (.ref 39), some (.int (jI z)), some (.int (jI (rgC z i))), some (.int (jI (i : Int)))] [] w (some (.int (jI (rgC z 46))), w') ∧ mst E t ws me w' ∧ xsame [49, 50] w w' := by
  intro k
  induction k with
  | zero =>
    intro i w hi h1 h
    have e : i = 46 := by omega
    subst e
    exact ⟨w, Z_270_22 h.1 ⟨_, h.pm, s32, s32, fun _ => rfl, fun q => by omega⟩, h, xsame.rf⟩
  | succ k ih =>
    intro i w hi h1 h
    have e : rgC z (i + 1) = rgC z i + (if 3 ≤ prZ i ∧ prZ i ≤ z ∧ irC (prZ i).toNat = 0 then 1 else 0) := rfl
    have b3 : ∀ i : Nat, i < 46 → 1 ≤ i → 3 ≤ prZ i := by decide
    have q3 := b3 i (by omega) h1
    obtain ⟨m1, m2, m3⟩ := prZ_i3 i (by omega) q3
    have ib := irC_b _ m1
    have pr := h.pr (j := i) (by omega)
    by_cases q : z < prZ i
    · obtain ⟨w', g, g2, g3⟩ := ih (i + 1) w (by omega) (by omega) h
      rw [e, show ((i + 1 : Nat) : Int) = (i : Int) + 1 by omega, if_neg (by omega)] at g
      exact ⟨w', Z_270_22 h.1 ⟨_, h.pm, s32, s32, fun q => by omega, fun _ => ⟨by omega, _, pr, ⟨by omega, by omega⟩, hz, fun _ => g, fun q => by omega⟩⟩, g2, g3⟩
    · obtain ⟨w1, a1, a2, a3⟩ := C_irrOf h.1 m1
      rw [m2] at a1
      obtain ⟨w', g, g2, g3⟩ := ih (i + 1) w1 (by omega) (by omega) (h.same a3 (by decide) a2)
      rw [e, show ((i + 1 : Nat) : Int) = (i : Int) + 1 by omega] at g
      refine ⟨w', Z_270_22 h.1 ⟨_, h.pm, s32, s32, fun q => by omega, fun _ => ⟨by omega, _, pr, ⟨by omega, by omega⟩, hz, fun q => by omega, fun _ => ⟨by omega, _, pr, _, _, a1, a2, ⟨by omega, by omega⟩, fun q4 => ?_, fun q4 => ?_⟩⟩⟩, g2, a3.trans g3⟩
      · rw [if_neg (by omega)] at g; exact g
      · rw [if_pos (by omega)] at g; exact g
theorem m_regulars {z : Int} (hz : in32 z) : mAns E t ws me E t ws me 270 [.int (jI z)] (.int (jI (rgS z))) := by
  intro w0 h0
  have h := h0.p0 (v := jI 0)
  have hs : xsame [39] w0 (pF w0 39 0 (.int (jI 0))) := sm_pF (by decide)
  by_cases v : 3 ≤ z ∧ z ≤ 199
  · obtain ⟨w1, a1, a2, a3⟩ := L_270 hz 45 1 _ (by decide) (by decide) h
    rw [show rgS z = _ from if_pos v]
    exact ⟨w1, Z_270 h0.1 (fun w2 e2 hC2 => by
      rw [e2]
      exact ⟨_, _, _, C_isIn hz s32 s32 _, h.1, fun _ => a1, fun q => absurd v q⟩), a2, (hs.mono (by decide)).trans (a3.mono (by decide))⟩
  · rw [show rgS z = _ from if_neg v]
    exact ⟨pF w0 39 0 (.int (jI 0)), Z_270 h0.1 (fun w2 e2 hC2 => by
      rw [e2]
      exact ⟨_, _, _, C_isIn hz s32 s32 _, h.1, fun q => absurd q v, fun _ => rfl⟩), h, hs.mono (by decide)⟩
/-! pair -/
theorem prS_hit {k x : Int} {a b : Nat} (hx : 0 ≤ x ∧ x ≤ 1) (h0 : 0 ≤ k) (h : prs9[k.toNat]? = some (a, b)) : prS k x = if x = 0 then (a : Int) else (b : Int) := by
  have kl : k.toNat < prs9.length := (List.getElem?_eq_some_iff.mp h).1
  have kl9 : k.toNat < 9 := kl
  unfold prS
  rw [if_neg (by omega), if_neg (by omega), h]
  rfl
theorem L_259a {k x : Int} (hk : in32 k) (hx : 0 ≤ x ∧ x ≤ 1) {s : Nat} (hs : s < 45) (k0 : 0 ≤ k) {w : xW} (h : mst E t ws me w) (H : ∀ i, i + 3 ≤ (prZ (s + 1)).toNat → rI w 49 i ((bwS (prZ (s + 1)).toNat i : Nat) : Int)) {w' : xW} (K : ((p9 (s + 1)).length : Int) ≤ k → xGo 259 25 [some (.ref 39), some (.int (jI k)), some (.int (jI x)), some (.int (jI (k - (p9 (s + 1)).length))), some (.int (jI ((s : Int) + 1 + 1))), none] [] w (some (.int (jI (prS k x))), w')) (hw : k < (p9 (s + 1)).length → w' = w) : ∀ (f m : Nat), m + f = ((prZ (s + 1)).toNat - 3) / 2 → ((p9 s).length : Int) + (pO (prZ (s + 1)).toNat m).length ≤ k →
    xGo 259 48 [some (.ref 39), some (.int (jI k)), some (.int (jI x)), some (.int (jI (k - (p9 s).length - (pO (prZ (s + 1)).toNat m).length))), some (.int (jI ((s : Int) + 1))), some (.int (jI ((2 * m + 2 : Nat) : Int)))] [] w (some (.int (jI (prS k x))), w') := by
  obtain ⟨m1, m2⟩ := prZ_s s hs
  have pb := prN_b _ m1
  have po := pr_odd m1
  have kb := hk.2
  have pr := h.pr (j := s + 1) (by omega)
  have e9 := congrArg List.length (p9_st hs)
  rw [List.length_append] at e9
  intro f
  induction f with
  | zero =>
    intro m hm hl
    rw [show m = ((prZ (s + 1)).toNat - 3) / 2 by omega] at hl ⊢
    have K' := K (by omega)
    rw [show k - ((p9 (s + 1)).length : Int) = k - (p9 s).length - (pO (prZ (s + 1)).toNat (((prZ (s + 1)).toNat - 3) / 2)).length by omega] at K'
    refine Z_259_48 h.1 ⟨by omega, _, by rw [show ((s : Int) + 1).toNat = s + 1 by omega]; exact pr, s32, ⟨by omega, by omega⟩, fun _ => K', fun q => by omega⟩
  | succ f ih =>
    intro m hm hl
    have r := H (2 * m + 2) (by omega)
    have bl := bw_lt (n := 2 * m + 2) m1
    have e2 : ((2 * (m + 1) + 2 : Nat) : Int) = ((2 * m + 2 : Nat) : Int) + 2 := by omega
    refine Z_259_48 h.1 ⟨by omega, _, by rw [show ((s : Int) + 1).toNat = s + 1 by omega]; exact pr, s32, ⟨by omega, by omega⟩, fun q => by omega, fun _ => ⟨by omega, _, r, ⟨by omega, by omega⟩, fun q => ?_, fun q => ?_⟩⟩
    · have hb : bwS (prZ (s + 1)).toNat (2 * m + 2) = 0 := by omega
      have e1 : (pO (prZ (s + 1)).toNat (m + 1)).length = (pO (prZ (s + 1)).toNat m).length + 1 := by
        show (pO (prZ (s + 1)).toNat m ++ (if bwS (prZ (s + 1)).toNat (2 * m + 2) = 0 then [((prZ (s + 1)).toNat, 2 * m + 2)] else [])).length = _
        rw [if_pos hb, List.length_append]; rfl
      refine ⟨⟨by omega, by omega⟩, fun q1 => ?_, fun q1 => ?_⟩
      · have g := ih (m + 1) (by omega) (by omega)
        rw [e2, e1, show k - ((p9 s).length : Int) - (((pO (prZ (s + 1)).toNat m).length + 1 : Nat) : Int) = k - ((p9 s).length : Int) - ((pO (prZ (s + 1)).toNat m).length : Int) - 1 by omega] at g
        exact g
      · have hit := pr_hit hs (m := m) (by omega) hb
        have mono := pO_mono (prZ (s + 1)).toNat (((prZ (s + 1)).toNat - 3) / 2 - (m + 1)) (m + 1)
        rw [show m + 1 + (((prZ (s + 1)).toNat - 3) / 2 - (m + 1)) = ((prZ (s + 1)).toNat - 3) / 2 by omega] at mono
        have ew := hw (by omega)
        have ek : k.toNat = (p9 s).length + (pO (prZ (s + 1)).toNat m).length := by omega
        rw [← ek] at hit
        have ea := prS_hit hx k0 hit
        rw [ew, ea]
        refine ⟨s32, fun q2 => ?_, fun q2 => ⟨by omega, _, by rw [show ((s : Int) + 1).toNat = s + 1 by omega]; exact pr, ?_⟩⟩
        · rw [if_neg q2]
        · rw [if_pos q2, m2]
    · have hb : bwS (prZ (s + 1)).toNat (2 * m + 2) ≠ 0 := by omega
      have e1 : (pO (prZ (s + 1)).toNat (m + 1)).length = (pO (prZ (s + 1)).toNat m).length := by
        show (pO (prZ (s + 1)).toNat m ++ (if bwS (prZ (s + 1)).toNat (2 * m + 2) = 0 then [((prZ (s + 1)).toNat, 2 * m + 2)] else [])).length = _
        rw [if_neg hb, List.length_append]; rfl
      have g := ih (m + 1) (by omega) (by omega)
      rw [e2, e1] at g
      exact g
theorem L_259 {k x : Int} (hk : in32 k) (hx : 0 ≤ x ∧ x ≤ 1) (k0 : 0 ≤ k) : ∀ (f s : Nat) (w : xW), s + f = 45 → mst E t ws me w → ((p9 s).length : Int) ≤ k →
    ∃ w', xGo 259 25 [some (.ref 39), some (.int (jI k)), some (.int (jI x)), some (.int (jI (k - (p9 s).length))), some (.int (jI ((s : Int) + 1))), none] [] w (some (.int (jI (prS k x))), w') ∧ mst E t ws me w' ∧ xsame [49, 50] w w' := by
  intro f
  induction f with
  | zero =>
    intro s w hs h hl
    have e : s = 45 := by omega
    subst e
    rw [p9_45] at hl ⊢
    have h9 : ((prs9.length : Nat) : Int) = 9 := rfl
    have ep : prS k x = -2 := by
      unfold prS
      rw [if_neg (by omega), if_pos (by omega)]
    rw [ep]
    exact ⟨w, Z_259_25 h.1 ⟨_, h.pm, s32, s32, fun _ => rfl, fun q => by omega⟩, h, xsame.rf⟩
  | succ f ih =>
    intro s w hs h hl
    obtain ⟨m1, m2⟩ := prZ_s s (by omega)
    have pb := prN_b _ m1
    have pr := h.pr (j := s + 1) (by omega)
    obtain ⟨w1, a1, a2, a3, a4⟩ := C_laysRests h.1 m1
    rw [m2] at a1
    have h1 := h.same a3 (by decide) a2
    have fin : ∃ w', (((p9 (s + 1)).length : Int) ≤ k → xGo 259 25 [some (.ref 39), some (.int (jI k)), some (.int (jI x)), some (.int (jI (k - (p9 (s + 1)).length))), some (.int (jI ((s : Int) + 1 + 1))), none] [] w1 (some (.int (jI (prS k x))), w')) ∧ (k < (p9 (s + 1)).length → w' = w1) ∧ mst E t ws me w' ∧ xsame [49, 50] w1 w' := by
      by_cases q : ((p9 (s + 1)).length : Int) ≤ k
      · obtain ⟨w', g1, g2, g3⟩ := ih (s + 1) w1 (by omega) h1 q
        exact ⟨w', fun _ => g1, fun z => by omega, g2, g3⟩
      · exact ⟨w1, fun z => absurd z q, fun _ => rfl, h1, xsame.rf⟩
    obtain ⟨w', g1, g2, g3, g4⟩ := fin
    have g := L_259a hk hx (s := s) (by omega) k0 h1 a4 g1 g2 (((prZ (s + 1)).toNat - 3) / 2) 0 (by omega) (by
      show ((p9 s).length : Int) + 0 ≤ k
      omega)
    rw [show k - ((p9 s).length : Int) - ((pO (prZ (s + 1)).toNat 0).length : Int) = k - (p9 s).length from Int.sub_zero _] at g
    exact ⟨w', Z_259_25 h.1 ⟨_, h.pm, s32, s32, fun q => by omega, fun _ => ⟨by omega, _, by rw [show ((s : Int) + 1).toNat = s + 1 by omega]; exact pr, _, a1, a2, g⟩⟩, g3, a3.trans g4⟩
theorem m_pair {k x : Int} (hk : in32 k) (hx : in32 x) : mAns E t ws me E t ws me 259 [.int (jI k), .int (jI x)] (.int (jI (prS k x))) := by
  intro w0 h0
  have h := h0.p0 (v := jI 0)
  have hs : xsame [39] w0 (pF w0 39 0 (.int (jI 0))) := sm_pF (by decide)
  by_cases v : k < 0 ∨ x < 0 ∨ 1 < x
  · rw [show prS k x = -1 from if_pos v]
    exact ⟨pF w0 39 0 (.int (jI 0)), Z_259 h0.1 (fun w2 e2 hC2 => by
      rw [e2]
      exact ⟨hk, fun _ => rfl, fun q => ⟨_, _, _, C_isIn hx s32 s32 _, h.1, fun q2 => by omega, fun _ => rfl⟩⟩), h, hs.mono (by decide)⟩
  · obtain ⟨w1, a1, a2, a3⟩ := L_259 hk (x := x) ⟨by omega, by omega⟩ (by omega) 45 0 _ (by decide) h (by
      show (0 : Int) ≤ k
      omega)
    rw [show k - ((p9 0).length : Int) = k from Int.sub_zero _] at a1
    exact ⟨w1, Z_259 h0.1 (fun w2 e2 hC2 => by
      rw [e2]
      exact ⟨hk, fun q => by omega, fun q => ⟨_, _, _, C_isIn hx s32 s32 _, h.1, fun q2 => a1, fun q2 => by omega⟩⟩), a2, (hs.mono (by decide)).trans (a3.mono (by decide))⟩
/-! second -/
def hsq (n p : Nat) : Bool := if n % p = 0 then psum n p % (p * p * p * p) / p % (p * p * p) == 0 else psum n p % (p * p * p) / p % (p * p) == 0
theorem hsq_c : ∀ r ∈ scL, (∀ i, i < r.2.2.2.2.2.2 → hsq (r.2.1 + i * (r.1 - 1)) r.1 = false) ∧ hsq (r.2.1 + r.2.2.2.2.2.2 * (r.1 - 1)) r.1 = true := by decide +kernel
theorem C_hasSq {n p : Nat} (h1 : 7 ≤ p) (h2 : p ≤ 199) (hn : n < 1000000) {w : xW} (hC : CS w) : xCall 261 [.int (jI (n : Int)), .int (jI (p : Int))] w (some (.int (bz (hsq n p = true))), w) := by
  have pp : p * p ≤ 39601 := Nat.mul_le_mul h2 h2
  have p7 : 49 ≤ p * p := Nat.mul_le_mul h1 h1
  have ppp : p * p * p ≤ 39601 * 199 := Nat.mul_le_mul pp h2
  have pp7 : 49 * 7 ≤ p * p * p := Nat.mul_le_mul p7 h1
  have p4 : p * p * p * p ≤ 39601 * 199 * 199 := Nat.mul_le_mul ppp h2
  have p47 : 49 * 7 * 7 ≤ p * p * p * p := Nat.mul_le_mul pp7 h1
  have e2 : (p : Int) * p = ((p * p : Nat) : Int) := (Int.natCast_mul p p).symm
  have e3 : (p : Int) * p * p = ((p * p * p : Nat) : Int) := by rw [e2, ← Int.natCast_mul]
  have e4 : (p : Int) * p * p * p = ((p * p * p * p : Nat) : Int) := by rw [e3, ← Int.natCast_mul]
  have r3 := C_powersBy (n := n) (p := p) (M := p * p * p) (by omega) (by omega) (by omega) (by omega) (by omega) w
  have r4 := C_powersBy (n := n) (p := p) (M := p * p * p * p) (by omega) (by omega) (by omega) (by omega) (by omega) w
  have b3 := Nat.mod_lt (psum n p) (show 0 < p * p * p by omega)
  have b4 := Nat.mod_lt (psum n p) (show 0 < p * p * p * p by omega)
  have d3 : psum n p % (p * p * p) / p ≤ 7880599 := Nat.le_trans (Nat.div_le_self _ _) (by omega)
  have d4 : psum n p % (p * p * p * p) / p ≤ 1568239201 := Nat.le_trans (Nat.div_le_self _ _) (by omega)
  have eh : hsq n p = (if n % p = 0 then psum n p % (p * p * p * p) / p % (p * p * p) == 0 else psum n p % (p * p * p) / p % (p * p) == 0) := rfl
  rw [eh]
  generalize psum n p % (p * p * p) / p = A3 at r3 d3 ⊢
  generalize psum n p % (p * p * p * p) / p = A4 at r4 d4 ⊢
  have f3 := Nat.mod_lt A3 (show 0 < p * p by omega)
  have f4 := Nat.mod_lt A4 (show 0 < p * p * p by omega)
  have m0 : Int.tmod (n : Int) (p : Int) = ((n % p : Nat) : Int) := by rw [tmN (by omega), ← Int.natCast_emod]
  have mb := Nat.mod_lt n (show 0 < p by omega)
  have m3 : Int.tmod (A3 : Int) ((p : Int) * p) = ((A3 % (p * p) : Nat) : Int) := by rw [tmN (by omega), e2, ← Int.natCast_emod]
  have m4 : Int.tmod (A4 : Int) ((p : Int) * p * p) = ((A4 % (p * p * p) : Nat) : Int) := by rw [tmN (by omega), e3, ← Int.natCast_emod]
  generalize n % p = nm at m0 mb ⊢
  generalize A3 % (p * p) = B3 at m3 f3 ⊢
  generalize A4 % (p * p * p) = B4 at m4 f4 ⊢
  refine Z_261 hC ⟨s32, s32, by omega, _, m0, ⟨by omega, by omega⟩, fun q => ⟨_, _, by rw [e3]; exact r3, hC, ⟨by omega, by omega⟩, by rw [e2]; exact ⟨by omega, by omega⟩, by rw [e2]; omega, _, m3, ⟨by omega, by omega⟩, fun q1 => ?_, fun q1 => ?_⟩, fun q => ⟨_, _, by rw [e4]; exact r4, hC, ⟨by omega, by omega⟩, by rw [e3]; exact ⟨by omega, by omega⟩, by rw [e3]; omega, _, m4, ⟨by omega, by omega⟩, fun q1 => ?_, fun q1 => ?_⟩⟩
  · rw [bz_f]
    · rfl
    · rw [if_neg (by omega)]
      intro z
      have := eq_of_beq z
      omega
  · rw [bz_t]
    · rfl
    · rw [if_neg (by omega), beq_iff_eq]
      omega
  · rw [bz_f]
    · rfl
    · rw [if_pos (by omega)]
      intro z
      have := eq_of_beq z
      omega
  · rw [bz_t]
    · rfl
    · rw [if_pos (by omega), beq_iff_eq]
      omega
theorem L_260 {z1 : Int} {w : xW} (hC : CS w) {p k j : Nat} (h1 : 7 ≤ p) (h2 : p ≤ 199) (hk : k ≤ 199) (hj : j < p) (H : ∀ i, i < j → hsq (k + i * (p - 1)) p = false) (Hj : hsq (k + j * (p - 1)) p = true) : ∀ (f i : Nat), i + f = j →
    xGo 260 35 [some (.ref 39), some (.int (jI z1)), some (.int (jI (p : Int))), some (.int (jI (k : Int))), some (.int (jI (i : Int)))] [] w (some (.int (jI ((k : Int) + (j : Int) * ((p : Int) - 1)))), w) := by
  have ec : ∀ i : Nat, ((k + i * (p - 1) : Nat) : Int) = (k : Int) + (i : Int) * ((p : Int) - 1) := fun i => by
    rw [Int.natCast_add, Int.natCast_mul, show ((p - 1 : Nat) : Int) = (p : Int) - 1 by omega]
  have cl : ∀ i : Nat, i < p → xCall 261 [.int (jI ((k : Int) + (i : Int) * ((p : Int) - 1))), .int (jI (p : Int))] w (some (.int (bz (hsq (k + i * (p - 1)) p = true))), w) := fun i hi => by
    have := Nat.mul_le_mul (show i ≤ 199 by omega) (show p - 1 ≤ 199 by omega)
    have := C_hasSq (n := k + i * (p - 1)) h1 h2 (by omega) hC
    rw [ec] at this
    exact this
  intro f
  induction f with
  | zero =>
    intro i hi
    have e : i = j := by omega
    subst e
    exact Z_260_35 hC ⟨s32, s32, fun q => by omega, fun _ => ⟨_, _, _, cl i hj, hC, fun q => absurd Hj q, fun _ => rfl⟩⟩
  | succ f ih =>
    intro i hi
    have g := ih (i + 1) (by omega)
    rw [show ((i + 1 : Nat) : Int) = (i : Int) + 1 by omega] at g
    exact Z_260_35 hC ⟨s32, s32, fun q => by omega, fun _ => ⟨_, _, _, cl i (by omega), hC, fun _ => g, fun q => by rw [H i (by omega)] at q; exact absurd q (by decide)⟩⟩
theorem m_second {k : Int} (hk : in32 k) : mAns E t ws me E t ws me 260 [.int (jI k)] (.int (jI (scS k))) := by
  intro w0 h0
  have h := h0.p0 (v := jI 0)
  have hs : xsame [39] w0 (pF w0 39 0 (.int (jI 0))) := sm_pF (by decide)
  by_cases v : k < 0
  · rw [show scS k = -1 from if_pos v]
    exact ⟨pF w0 39 0 (.int (jI 0)), Z_260 h0.1 (fun w2 e2 hC2 => by
      rw [e2]
      exact ⟨hk, fun q => by omega, fun _ => rfl⟩), h, hs.mono (by decide)⟩
  · obtain ⟨w1, a1, a2, a3⟩ := m_pair (x := 0) hk s32 _ h
    by_cases k9 : 9 ≤ k
    · have ep : prS k 0 = -2 := by
        unfold prS
        rw [if_neg (by omega), if_pos k9]
      rw [ep] at a1
      rw [show scS k = -2 by unfold scS; rw [if_neg v, if_pos k9]]
      exact ⟨w1, Z_260 h0.1 (fun w2 e2 hC2 => by
        rw [e2]
        exact ⟨hk, fun q => ⟨_, _, a1, a2.1, s32, fun q2 => by omega, fun _ => rfl⟩, fun q => by omega⟩), a2, (hs.mono (by decide)).trans a3⟩
    · obtain ⟨w2, b1, b2, b3⟩ := m_pair (x := 1) hk s32 _ a2
      obtain ⟨⟨q1, q2, q3, q4, q5, q6, q7, q8, q9, q10, q11, q12⟩, ee⟩ := scR_g (k := k) (by omega) (by omega)
      have e0 : prS k 0 = ((scR k).1 : Int) := by
        unfold prS
        rw [if_neg (by omega), if_neg k9, if_pos rfl, ee]
      have e1 : prS k 1 = ((scR k).2.1 : Int) := by
        unfold prS
        rw [if_neg (by omega), if_neg k9, if_neg (by decide), ee]
      rw [e0] at a1
      rw [e1] at b1
      rw [show scS k = _ by unfold scS; rw [if_neg v, if_neg k9]]
      have m : scR k ∈ scL := by
        have kl : k.toNat < scL.length := by show _ < 9; omega
        unfold scR
        rw [List.getElem?_eq_getElem kl]
        exact List.getElem_mem kl
      obtain ⟨hh1, hh2⟩ := hsq_c _ m
      have l := L_260 (z1 := k) b2.1 q1 q2 q3 q10 hh1 hh2 _ 0 (Nat.zero_add _)
      exact ⟨w2, Z_260 h0.1 (fun w2 e2 hC2 => by
        rw [e2]
        exact ⟨hk, fun q => ⟨_, _, a1, a2.1, s32, fun q2 => ⟨_, _, b1, b2.1, l⟩, fun q2 => by omega⟩, fun q => by omega⟩), b2, (hs.mono (by decide)).trans (a3.trans b3)⟩
end M9
