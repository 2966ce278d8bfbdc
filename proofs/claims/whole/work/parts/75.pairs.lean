/-! the class's calls byWay, nothings, irregular, pair, regulars -/
def prs9 : List (Nat × Nat) := [(37, 32), (59, 44), (67, 58), (101, 68), (103, 24), (131, 22), (149, 130), (157, 62), (157, 110)]
def p9 (s : Nat) : List (Nat × Nat) := (prN.take s).flatMap (fun p => prs9.filter (fun q => q.1 == p))
theorem prOf_9 : ∀ p ∈ prN, prOf p = prs9.filter (fun q => q.1 == p) := by decide +kernel
theorem prs_9 (s : Nat) : prsS s = p9 s := by
  unfold prsS p9
  have : ∀ l : List Nat, (∀ p ∈ l, p ∈ prN) → l.flatMap prOf = l.flatMap (fun p => prs9.filter (fun q => q.1 == p)) := by
    intro l
    induction l with
    | nil => intro _; rfl
    | cons a l ih =>
      intro h
      rw [List.flatMap_cons, List.flatMap_cons, ih (fun p hp => h p (by simp [hp])), prOf_9 a (h a (by simp))]
  exact this _ (fun p hp => List.mem_of_mem_take hp)
theorem p9_c : ∀ s : Nat, s < 46 → (p9 s).length ≤ 9 := by decide +kernel
theorem p9_45 : p9 45 = prs9 := by decide +kernel
theorem p9_s : ∀ s : Nat, s < 45 → p9 (s + 1) = p9 s ++ prs9.filter (fun q => q.1 == (prZ (s + 1)).toNat) := by decide +kernel
/-- pairs of a prime, as they are found -/
def pO (p : Nat) : Nat → List (Nat × Nat)
  | 0 => []
  | i + 1 => pO p i ++ (if bwS p (2 * i + 2) = 0 then [(p, 2 * i + 2)] else [])
theorem pO_9 : ∀ p ∈ prN, pO p ((p - 3) / 2) = prs9.filter (fun q => q.1 == p) := by decide +kernel
theorem pO_len (p : Nat) : ∀ i : Nat, (pO p i).length ≤ i
  | 0 => Nat.le_refl 0
  | i + 1 => by
    have := pO_len p i
    show (pO p i ++ (if bwS p (2 * i + 2) = 0 then [(p, 2 * i + 2)] else [])).length ≤ i + 1
    rw [List.length_append]
    split <;> simp <;> omega
theorem pO_mono (p : Nat) : ∀ d i : Nat, (pO p i).length ≤ (pO p (i + d)).length
  | 0, i => Nat.le_refl _
  | d + 1, i => by
    have := pO_mono p d i
    show (pO p i).length ≤ (pO p (i + d) ++ _).length
    rw [List.length_append]
    omega
def irC (p : Nat) : Nat := (prs9.filter (fun q => q.1 == p)).length
section P5
variable {c : Nat} {E : eT} {t : Int} {ws : Nat → Int} {me : memT} {w : xW}
theorem cst.byw (h : cst E t ws me w) (ht : t ≤ 38) (hl : me.length ≤ 20) {w' : xW} (hs : xsame [28, 29, 30] w w') (hC : CS w') (hB : cB w') : cst E t ws me w' := by
  refine cst_of hC (h.top.sm hs (by decide)) (fun n k q1 q2 => (h.cb q1 q2).sm hs (by decide)) (fun n q => ?_) (fun n q => ?_) (fun n q => (h.wy ht q).sm hs (by decide)) (h.mz.sm hs (by decide)) (fun k q hq => ?_) hB ?_
  · obtain ⟨a, b, c⟩ := h.rt q
    exact ⟨a.sm hs (by decide), b.sm hs (by decide), c.sm hs (by decide)⟩
  · obtain ⟨a, b, c⟩ := h.nw ht q
    exact ⟨a.sm hs (by decide), b.sm hs (by decide), c.sm hs (by decide)⟩
  · obtain ⟨a, b, c⟩ := h.mm hl hq
    exact ⟨a.sm hs (by decide), b.sm hs (by decide), c.sm hs (by decide)⟩
  · obtain ⟨-, -, -, -, -, -, -, -, ⟨s, f31, g31, hs31, a31, b31, c31, k31⟩⟩ := h
    exact ⟨s, f31, g31, hs31, hs.get (by decide) a31, hs.get (by decide) b31, hs.get (by decide) c31, k31⟩
theorem C_fill (h : cst E t ws me w) (ht : t ≤ 38) (hl : me.length ≤ 20) {p : Nat} {y : Int} (hp : p ∈ prN) (hy : 0 ≤ y ∧ y ≤ 2) : ∃ w', xCall 123 [.ref 28, .int (jI (p : Int)), .int (jI y)] w (none, w') ∧ cst E t ws me w' ∧ xsame [28, 29, 30] w w' ∧ ∀ i, i + 2 ≤ p → rL w' 29 i ((bwS p i : Nat) : Int) := by
  have pb := prN_b p hp
  obtain ⟨fp, fw', f, h28, h29, k28⟩ := h.2.2.2.2.2.2.2.1
  obtain ⟨x2, b2, rfl⟩ := jI_of fp
  obtain ⟨x3, b3, rfl⟩ := jI_of fw'
  have f2 : fI w 28 8 2 x2 := ⟨_, h28, rfl⟩
  have f3 : fI w 28 8 3 x3 := ⟨_, h28, rfl⟩
  have s1 : xsame [28] w (pF w 28 2 (.int (jI (p : Int)))) := sm_pF (by decide)
  have s2 : xsame [28] (pF w 28 2 (.int (jI (p : Int)))) (pF (pF w 28 2 (.int (jI (p : Int)))) 28 3 (.int (jI y))) := sm_pF (by decide)
  have c1 : CS (pF w 28 2 (.int (jI (p : Int)))) := ks_28_2 h.1
  have c2 : CS (pF (pF w 28 2 (.int (jI (p : Int)))) 28 3 (.int (jI y))) := ks_28_3 c1
  have g1 : (pF w 28 2 (.int (jI (p : Int))))[28]? = some (.inr (8, [.ref 29, .ref 30, .int (jI (p : Int)), .int (jI x3)])) := by
    rw [pF_of h28]; exact set_get h28
  have g2 : (pF (pF w 28 2 (.int (jI (p : Int)))) 28 3 (.int (jI y)))[28]? = some (.inr (8, [.ref 29, .ref 30, .int (jI (p : Int)), .int (jI y)])) := by
    rw [pF_of g1]; exact set_get g1
  have fin : ∀ w', CS w' → xsame [29, 30] (pF (pF w 28 2 (.int (jI (p : Int)))) 28 3 (.int (jI y))) w' → (∀ i, i + 2 ≤ p → rL w' 29 i ((bwS p i : Nat) : Int)) → cst E t ws me w' ∧ xsame [28, 29, 30] w w' := by
    intro w' hC' hs' H
    have sm : xsame [28, 29, 30] w w' := (s1.mono (by decide)).trans ((s2.mono (by decide)).trans (hs'.mono (by decide)))
    obtain ⟨f', h29'⟩ := kl_29 hC'
    exact ⟨h.byw ht hl sm hC' ⟨_, _, f', hs'.get (by decide) g2, h29', Or.inr ⟨p, hp, rfl, fun n hn => (H n hn).val h29'⟩⟩, sm⟩
  have work : ∃ w', (y ≠ 0 → (y ≠ 1 → xCall 126 [.ref 28, .int (jI (p : Int))] (pF (pF w 28 2 (.int (jI (p : Int)))) 28 3 (.int (jI y))) (none, w')) ∧ (y = 1 → xCall 125 [.ref 28, .int (jI (p : Int))] (pF (pF w 28 2 (.int (jI (p : Int)))) 28 3 (.int (jI y))) (none, w'))) ∧ (y = 0 → xCall 124 [.ref 28, .int (jI (p : Int))] (pF (pF w 28 2 (.int (jI (p : Int)))) 28 3 (.int (jI y))) (none, w')) ∧ CS w' ∧ xsame [29, 30] (pF (pF w 28 2 (.int (jI (p : Int)))) 28 3 (.int (jI y))) w' ∧ ∀ i, i + 2 ≤ p → rL w' 29 i ((bwS p i : Nat) : Int) := by
    by_cases y0 : y = 0
    · obtain ⟨w', a1, a2, a3, a4⟩ := C_fillRec c2 hp
      exact ⟨w', fun q => absurd y0 q, fun _ => a1, a2, a3, a4⟩
    · by_cases y1 : y = 1
      · obtain ⟨w', a1, a2, a3, a4⟩ := C_fillTri c2 hp
        exact ⟨w', fun _ => ⟨fun q => absurd y1 q, fun _ => a1⟩, fun q => absurd q y0, a2, a3, a4⟩
      · obtain ⟨w', a1, a2, a3, a4⟩ := C_fillPow c2 hp
        exact ⟨w', fun _ => ⟨fun _ => a1, fun q => absurd q y1⟩, fun q => absurd q y0, a2, a3, a4⟩
  obtain ⟨w', r1, r2, r3, r4, r5⟩ := work
  obtain ⟨e1, e2⟩ := fin w' r3 r4 r5
  by_cases same : (p : Int) = x2 ∧ y = x3
  · refine ⟨w, Z_123 h.1 ⟨s32, fun q => by omega, fun _ => ⟨fun q => by omega, fun _ => ⟨_, f2, b2, fun q => absurd same.1 q, fun _ => ⟨_, f3, s32, b3, fun q => absurd same.2 q, fun _ => rfl⟩⟩⟩⟩, h, xsame.rf, fun i hi => ?_⟩
    rcases k28 with z | ⟨p', hp', ep, H⟩
    · rw [← same.1] at z
      have := (jI_eq (a := (p : Int)) (b := 0) s32 z32).mp z
      omega
    · have pb' := prN_b p' hp'
      rw [← same.1] at ep
      have e := (jI_eq (a := (p : Int)) (b := (p' : Int)) s32 s32).mp ep
      have e' : p = p' := by omega
      rw [e'] at hi ⊢
      exact rL_of h29 (by decide) (by omega) (H i hi)
  · have go : ∀ w9, w9 = pF (pF w 28 2 (.int (jI (p : Int)))) 28 3 (.int (jI y)) → (y ≠ 0 → (y ≠ 1 → ∃ w12, xCall 126 [.ref 28, .int (jI (p : Int))] w9 (none, w12) ∧ CS w12 ∧ ((none, w') : Option Value × xW) = (none, w12)) ∧ (y = 1 → ∃ w15, xCall 125 [.ref 28, .int (jI (p : Int))] w9 (none, w15) ∧ CS w15 ∧ ((none, w') : Option Value × xW) = (none, w15))) ∧ (y = 0 → ∃ w18, xCall 124 [.ref 28, .int (jI (p : Int))] w9 (none, w18) ∧ CS w18 ∧ ((none, w') : Option Value × xW) = (none, w18)) := by
      intro w9 e9
      rw [e9]
      exact ⟨fun q => ⟨fun q1 => ⟨_, (r1 q).1 q1, r3, rfl⟩, fun q1 => ⟨_, (r1 q).2 q1, r3, rfl⟩⟩, fun q => ⟨_, r2 q, r3, rfl⟩⟩
    refine ⟨w', Z_123 h.1 ⟨s32, fun q => by omega, fun _ => ⟨fun q => by omega, fun _ => ⟨_, f2, b2, fun q w6 e6 _ w9 e9 _ => ⟨s32, go w9 (by rw [e9, e6])⟩, fun q => ⟨_, f3, s32, b3, fun q2 w26 e26 _ w29 e29 _ => go w29 (by rw [e29, e26]), fun q2 => absurd ⟨q, q2⟩ same⟩⟩⟩⟩, e1, e2, r5⟩
theorem C_residueOf {w : xW} (hC : CS w) {p : Nat} {n : Int} (hp : p ∈ prN) (n0 : 0 ≤ n) (n2 : n + 2 ≤ p) (H : ∀ i, i + 2 ≤ p → rL w 29 i ((bwS p i : Nat) : Int)) : xCall 127 [.ref 28, .int (jI n)] w (some (.long (jL ((bwS p n.toNat : Nat) : Int))), w) := by
  have pb := prN_b p hp
  exact Z_127 hC ⟨s32, fun q => by omega, fun _ => ⟨fun q => by omega, fun _ => ⟨n0, _, H n.toNat (by omega), rfl⟩⟩⟩
def bwA (p y n : Int) : Int := if isPr p ∧ (0 ≤ y ∧ y ≤ 2) ∧ (0 ≤ n ∧ n ≤ p - 2) then ((bwS p.toNat n.toNat : Nat) : Int) else -1
theorem c_byWay (ok : okS c E t ws me) {p y n : Int} (hp : in32 p) (hy : in32 y) (hn : in32 n) : cAns E t ws me E t ws me 138 [.int (jI p), .int (jI y), .int (jI n)] (.int (jI (bwA p y n))) := by
  intro w h
  by_cases v : isPr p ∧ (0 ≤ y ∧ y ≤ 2) ∧ (0 ≤ n ∧ n ≤ p - 2)
  · have pb := prN_b _ v.1.2
    have ep : ((p.toNat : Nat) : Int) = p := Int.toNat_of_nonneg v.1.1
    obtain ⟨w1, a1, a2, a3, a4⟩ := C_fill h ok.2.2.1 ok.2.2.2.2.2.1 v.1.2 v.2.1
    have r := C_residueOf a2.1 (n := n) v.1.2 v.2.2.1 (by omega) a4
    rw [ep] at a1
    rw [show bwA p y n = _ from if_pos v]
    exact ⟨w1, Z_138 h.1 ⟨_, _, _, C_isPrime hp h.1.noP, h.1, fun q => absurd v.1 q, fun _ => ⟨_, _, _, C_isWay hy w, h.1, fun q => absurd v.2.1 q, fun _ => ⟨hn, fun q => by omega, fun _ => ⟨s32, fun _ => ⟨_, a1, a2.1, _, _, r, a2.1, rfl⟩, fun q => by omega⟩⟩⟩⟩, a2, a3.mono (by decide)⟩
  · rw [show bwA p y n = -1 from if_neg v]
    exact ⟨w, Z_138 h.1 ⟨_, _, _, C_isPrime hp h.1.noP, h.1, fun _ => rfl, fun q1 => ⟨_, _, _, C_isWay hy w, h.1, fun _ => rfl, fun q2 => ⟨hn, fun _ => rfl, fun q3 => ⟨⟨by have := q1.1; omega, by have := hp.2; omega⟩, fun q4 => absurd ⟨q1, q2, q3, q4⟩ v, fun _ => rfl⟩⟩⟩⟩, h, xsame.rf⟩
def nzC (p : Nat) : Nat → Int
  | 0 => 0
  | i + 1 => nzC p i + (if bwS p (2 * i + 2) = 0 then 1 else 0)
def nzS (p y : Int) : Int := if isPr p ∧ (0 ≤ y ∧ y ≤ 2) then nzC p.toNat ((p.toNat - 3) / 2) else -1
theorem pr_odd {p : Nat} (hp : p ∈ prN) : p % 2 = 1 := by
  have : ∀ q ∈ prN, q % 2 = 1 := by decide
  exact this p hp
theorem L_139 {w : xW} (hC : CS w) {p : Nat} {y : Int} (hp : p ∈ prN) (H : ∀ i, i + 2 ≤ p → rL w 29 i ((bwS p i : Nat) : Int)) : ∀ (k i : Nat), i + k = (p - 3) / 2 →
    xGo 139 30 [some (.ref 0), some (.int (jI (p : Int))), some (.int (jI y)), some (.int (jI (nzC p i))), some (.int (jI ((2 * i + 2 : Nat) : Int)))] [] w (some (.int (jI (nzC p ((p - 3) / 2)))), w) := by
  have pb := prN_b p hp
  have po := pr_odd hp
  intro k
  induction k with
  | zero =>
    intro i hi
    have e : i = (p - 3) / 2 := by omega
    subst e
    exact Z_139_30 hC ⟨s32, s32, fun _ => rfl, fun q => by omega⟩
  | succ k ih =>
    intro i hi
    have g := ih (i + 1) (by omega)
    have e : nzC p (i + 1) = nzC p i + (if bwS p (2 * i + 2) = 0 then 1 else 0) := rfl
    have r := C_residueOf hC (p := p) (n := ((2 * i + 2 : Nat) : Int)) hp (by omega) (by omega) H
    rw [Int.toNat_natCast] at r
    have bl := bw_lt (n := 2 * i + 2) hp
    rw [e, show ((2 * (i + 1) + 2 : Nat) : Int) = ((2 * i + 2 : Nat) : Int) + 2 by omega] at g
    refine Z_139_30 hC ⟨s32, s32, fun q => by omega, fun _ => ⟨_, _, r, hC, ⟨by omega, by omega⟩, fun q => ?_, fun q => ?_⟩⟩
    · rw [if_neg (by omega), Int.add_zero] at g; exact g
    · rw [if_pos (by omega)] at g; exact g
theorem c_nothings (ok : okS c E t ws me) {p y : Int} (hp : in32 p) (hy : in32 y) : cAns E t ws me E t ws me 139 [.int (jI p), .int (jI y)] (.int (jI (nzS p y))) := by
  intro w h
  by_cases v : isPr p ∧ (0 ≤ y ∧ y ≤ 2)
  · have pb := prN_b _ v.1.2
    have ep : ((p.toNat : Nat) : Int) = p := Int.toNat_of_nonneg v.1.1
    obtain ⟨w1, a1, a2, a3, a4⟩ := C_fill h ok.2.2.1 ok.2.2.2.2.2.1 v.1.2 v.2
    have l := L_139 a2.1 (y := y) v.1.2 a4 ((p.toNat - 3) / 2) 0 (by omega)
    rw [ep] at a1 l
    rw [show nzS p y = _ from if_pos v]
    exact ⟨w1, Z_139 h.1 ⟨_, _, _, C_isPrime hp h.1.noP, h.1, fun q => absurd v.1 q, fun _ => ⟨_, _, _, C_isWay hy w, h.1, fun _ => ⟨_, a1, a2.1, l⟩, fun q => absurd v.2 q⟩⟩, a2, a3.mono (by decide)⟩
  · rw [show nzS p y = -1 from if_neg v]
    exact ⟨w, Z_139 h.1 ⟨_, _, _, C_isPrime hp h.1.noP, h.1, fun _ => rfl, fun q1 => ⟨_, _, _, C_isWay hy w, h.1, fun q2 => absurd ⟨q1, q2⟩ v, fun _ => rfl⟩⟩, h, xsame.rf⟩
end P5
