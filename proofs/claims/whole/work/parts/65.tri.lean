/-! sums in triangular numbers: rows, and how large they may become -/
theorem tp_bv : ∀ i : Nat, i < 62 → (jL ((2 ^ i : Nat) : Int)).toBitVec = BitVec.twoPow 64 i := by decide +kernel
theorem jL_shl {a : Int} {i : Nat} (hi : i < 62) : jL a <<< ((jI (i : Int)).toInt64 &&& 63) = jL (a * ((2 ^ i : Nat) : Int)) := by
  rw [← jL_mul]
  apply Int64.toBitVec_inj.mp
  rw [Int64.toBitVec_mul, tp_bv i hi]
  show (jL a).toBitVec <<< (((jI (i : Int)).toInt64 &&& 63).toBitVec.smod 64).toNat = _
  rw [sh64 i (by omega), BitVec.shiftLeft_eq_mul_twoPow]
def stp (h : Nat) (R : Nat → Int) : Nat → Int := fun k => if h ≤ k ∧ k ≤ 2 * h then R k - R (2 * h) * (cb h (k - h) : Nat) else R k
def tMd (h i : Nat) (R : Nat → Int) : Nat → Int := fun k => if h ≤ k ∧ k < h + i then R k - R (2 * h) * (cb h (k - h) : Nat) else R k
theorem tMd_0 {h : Nat} {R : Nat → Int} (k : Nat) : tMd h 0 R k = R k := if_neg (by omega)
theorem tMd_e {h : Nat} {R : Nat → Int} (k : Nat) : tMd h (h + 1) R k = stp h R k := by
  unfold tMd stp
  by_cases q : h ≤ k ∧ k ≤ 2 * h
  · rw [if_pos q, if_pos (by omega)]
  · rw [if_neg q, if_neg (by omega)]
theorem tMd_s {h i : Nat} {R : Nat → Int} : tMd h (i + 1) R (h + i) = R (h + i) - R (2 * h) * (cb h i : Nat) ∧ tMd h i R (h + i) = R (h + i) ∧ ∀ k, k ≠ h + i → tMd h (i + 1) R k = tMd h i R k := by
  refine ⟨?_, if_neg (by omega), fun k hk => ?_⟩
  · unfold tMd
    rw [if_pos (by omega), show h + i - h = i by omega]
  · unfold tMd
    by_cases q : h ≤ k ∧ k < h + i
    · rw [if_pos q, if_pos (by omega)]
    · rw [if_neg q, if_neg (by omega)]
def tr0 (E : eT) (m : Nat) : Nat → Int := fun j => if 1 ≤ j ∧ j ≤ m + 1 then (cb (m + 1) j : Nat) * (scV (E (m + 1 - j)) 30030 + (if ((m + 1 - j : Nat) : Int) = 1 then 1 else 0) * 30030) else 0
def tR (E : eT) (m : Nat) : Nat → Nat → Int
  | 0 => tr0 E m
  | s + 1 => stp ((m + 1) / 2 - s) (tR E m s)
def ul0 (m : Nat) : List Int := (List.range (m + 2)).map (fun k => ((pasr (m + 1)).getD k 0 : Nat) * 162282120)
def ulS (m h : Nat) (l : List Int) : List Int := (List.range (m + 2)).map (fun k => if h ≤ k ∧ k ≤ 2 * h then l.getD k 0 + l.getD (2 * h) 0 * ((pasr h).getD (k - h) 0 : Nat) else l.getD k 0)
def ul (m : Nat) : Nat → List Int
  | 0 => ul0 m
  | s + 1 => ulS m ((m + 1) / 2 - s) (ul m s)
theorem ul_c : ∀ m : Nat, m < 16 → ∀ s : Nat, s < (m + 1) / 2 + 1 → ∀ k : Nat, k < m + 2 → (ul m s).getD k 0 ≤ 10000000000000000 := by decide +kernel
theorem ul_t : ∀ m : Nat, m < 16 → ∀ s : Nat, s < (m + 1) / 2 → (ul m s).getD (2 * ((m + 1) / 2 - s)) 0 * 2 ^ ((m + 1) / 2 - s) * 70 ≤ 8000000000000000000 := by decide +kernel
theorem cb_70 : ∀ h : Nat, h < 9 → ∀ i : Nat, i < 9 → cb h i ≤ 70 := by decide +kernel
theorem gD_map {n k : Nat} {f : Nat → Int} (h : k < n) : ((List.range n).map f).getD k 0 = f k := by
  rw [List.getD_eq_getElem?_getD, List.getElem?_map, List.getElem?_range h]
  rfl
theorem rB15 : ∀ n : Nat, n < 16 → rB n ∣ 30030 ∧ -1 ≤ rW n ∧ rW n ≤ 1 := by decide +kernel
section T1
variable {c : Nat} {E : eT} {t : Int} {ws : Nat → Int} {me : memT} {w : xW}
theorem e15 (ok : okS c E t ws me) {j : Nat} (j15 : j ≤ 15) (hj : (j : Int) ≤ t) : (E j).2.2 ∣ 30030 ∧ -162252090 ≤ scV (E j) 30030 ∧ scV (E j) 30030 ≤ 162252090 := by
  obtain ⟨a1, a2, a3, a4, a5, a6⟩ := ok.2.2.2.1 j hj
  have r := rB15 j (by omega)
  have hc := ok.1
  have d := Int.dvd_trans a3 r.1
  have p := tv_part (a := (E j).2.1) (b := (E j).2.2) (U := 30030) (by decide) a1 a2 d
  unfold scV
  exact ⟨d, by omega, by omega⟩
theorem tR_b (ok : okS c E t ws me) {m : Nat} (m15 : m ≤ 15) (mt : (m : Int) ≤ t) : ∀ s k : Nat, k < m + 2 → s ≤ (m + 1) / 2 → -((ul m s).getD k 0) ≤ tR E m s k ∧ tR E m s k ≤ (ul m s).getD k 0
  | 0, k, hk, hs => by
    show -((ul0 m).getD k 0) ≤ tr0 E m k ∧ tr0 E m k ≤ (ul0 m).getD k 0
    unfold ul0
    rw [gD_map hk, pasr_D (by omega)]
    unfold tr0
    by_cases q : 1 ≤ k ∧ k ≤ m + 1
    · rw [if_pos q]
      have e := e15 ok (j := m + 1 - k) (by omega) (by omega)
      have x : -162282120 ≤ scV (E (m + 1 - k)) 30030 + (if ((m + 1 - k : Nat) : Int) = 1 then 1 else 0) * 30030 ∧ scV (E (m + 1 - k)) 30030 + (if ((m + 1 - k : Nat) : Int) = 1 then 1 else 0) * 30030 ≤ 162282120 := by split <;> omega
      exact mul_ab (a := ((cb (m + 1) k : Nat) : Int)) (A := ((cb (m + 1) k : Nat) : Int)) (by omega) (by omega) x.1 x.2
    · rw [if_neg q]
      exact ⟨by omega, by omega⟩
  | s + 1, k, hk, hs => by
    have i1 := tR_b ok m15 mt s k hk (by omega)
    have i2 := tR_b ok m15 mt s (2 * ((m + 1) / 2 - s)) (by omega) (by omega)
    show -((ulS m ((m + 1) / 2 - s) (ul m s)).getD k 0) ≤ stp ((m + 1) / 2 - s) (tR E m s) k ∧ stp ((m + 1) / 2 - s) (tR E m s) k ≤ (ulS m ((m + 1) / 2 - s) (ul m s)).getD k 0
    unfold ulS stp
    rw [gD_map hk]
    by_cases q : (m + 1) / 2 - s ≤ k ∧ k ≤ 2 * ((m + 1) / 2 - s)
    · rw [if_pos q, if_pos q, pasr_D (by omega)]
      have x := mul_ab (b := ((cb ((m + 1) / 2 - s) (k - ((m + 1) / 2 - s)) : Nat) : Int)) (B := ((cb ((m + 1) / 2 - s) (k - ((m + 1) / 2 - s)) : Nat) : Int)) i2.1 i2.2 (by omega) (by omega)
      exact ⟨by omega, by omega⟩
    · rw [if_neg q, if_neg q]; exact i1
theorem tR_in (ok : okS c E t ws me) {m s k : Nat} (m15 : m ≤ 15) (mt : (m : Int) ≤ t) (hk : k < m + 2) (hs : s ≤ (m + 1) / 2) : -10000000000000000 ≤ tR E m s k ∧ tR E m s k ≤ 10000000000000000 := by
  have a := tR_b ok m15 mt s k hk hs
  have b := ul_c m (by omega) s (by omega) k hk
  exact ⟨by omega, by omega⟩
/-- what was taken for the triangle's power j -/
def tK (E : eT) (m j : Nat) : Int := tR E m ((m + 1) / 2 - j) (2 * j)
theorem tK_b (ok : okS c E t ws me) {m j : Nat} (m15 : m ≤ 15) (mt : (m : Int) ≤ t) (j1 : 1 ≤ j) (jH : j ≤ (m + 1) / 2) : -8000000000000000000 ≤ tK E m j * ((2 ^ j : Nat) : Int) * 70 ∧ tK E m j * ((2 ^ j : Nat) : Int) * 70 ≤ 8000000000000000000 := by
  have a := tR_b ok m15 mt ((m + 1) / 2 - j) (2 * j) (by omega) (by omega)
  have b := ul_t m (by omega) ((m + 1) / 2 - j) (by omega)
  rw [show (m + 1) / 2 - ((m + 1) / 2 - j) = j by omega] at b
  have p : 0 ≤ ((2 ^ j : Nat) : Int) := Int.natCast_nonneg _
  have e : ((2 ^ j : Nat) : Int) = (2 : Int) ^ j := by rw [Int.natCast_pow]; rfl
  rw [← e] at b
  have x := mul_ab (a := tK E m j) (A := (ul m ((m + 1) / 2 - j)).getD (2 * j) 0) (b := ((2 ^ j : Nat) : Int)) (B := ((2 ^ j : Nat) : Int)) a.1 a.2 (by omega) (by omega)
  exact ⟨by omega, by omega⟩
def tB (E : eT) (m : Nat) : Bool := (List.range ((m + 1) / 2)).all (fun s => decide (tR E m (s + 1) (2 * ((m + 1) / 2 - s) - 1) = 0))
abbrev tO (E : eT) (m : Nat) : Prop := tB E m = true
theorem tO_t {m : Nat} (h : ∀ s, s < (m + 1) / 2 → tR E m (s + 1) (2 * ((m + 1) / 2 - s) - 1) = 0) : tO E m := by
  unfold tO tB
  rw [List.all_eq_true]
  exact fun s hs => decide_eq_true (h s (List.mem_range.mp hs))
theorem tO_e {m s : Nat} (h : tO E m) (hs : s < (m + 1) / 2) : tR E m (s + 1) (2 * ((m + 1) / 2 - s) - 1) = 0 := by
  unfold tO tB at h
  rw [List.all_eq_true] at h
  exact of_decide_eq_true (h s (List.mem_range.mpr hs))
abbrev tD (m : Nat) : Int := 30030 * ((m : Int) + 1)
def trA (E : eT) (m j : Nat) : Int × Int × Int := frE (tK E m j * ((2 ^ j : Nat) : Int)) (tD m)
def tgF (E : eT) (t m j x : Int) : Int := if ((1 ≤ m ∧ m ≤ 15 ∧ m % 2 = 1) ∧ (1 ≤ j ∧ j ≤ (m + 1) / 2)) ∧ (0 ≤ x ∧ x ≤ 1) then (if m ≤ t then (if tO E m.toNat then (if x = 0 then enV (trA E m.toNat j.toNat) else (trA E m.toNat j.toNat).2.2) else -3) else -2) else lNO
/-! the class's -/
theorem L_167a (ok : okS c E t ws me) {m : Nat} (m15 : m ≤ 15) (mt : (m : Int) ≤ t) : ∀ (k j : Nat) (w : xW), j + k = m + 2 → 1 ≤ j → cst E t ws me w → (∀ i, 1 ≤ i → i < j → rL w 37 i (tr0 E m i)) →
    ∃ w', cst E t ws me w' ∧ xsame [37] w w' ∧ (∀ i, 1 ≤ i → i ≤ m + 1 → rL w' 37 i (tr0 E m i)) ∧ ∀ r, xGo 167 88 [some (.ref 0), some (.int (jI (m : Int))), some (.int (jI (((m + 1) / 2 : Nat) : Int))), none, none, none] [] w' r → xGo 167 20 [some (.ref 0), some (.int (jI (m : Int))), some (.int (jI (j : Int))), none, none, none] [] w r := by
  intro k
  induction k with
  | zero =>
    intro j w hj j1 h H
    exact ⟨w, h, xsame.rf, fun i h1 h2 => H i h1 (by omega), fun r g => Z_167_20 h.1 ⟨s32, s32, fun _ => ⟨((m + 1) / 2 : Nat), by rw [tdN (by omega)]; omega, g⟩, fun q => by omega⟩⟩
  | succ k ih =>
    intro j w hj j1 h H
    have sc := C_scaledN h ok (n := (m : Int) + 1 - (j : Int)) (S := 30030) (by omega) (by omega) (by decide) s64
    have ex := C_extraZ (n := (m : Int) + 1 - (j : Int)) s32 w
    have o := C_of h (n := (m : Int) + 1) (k := (j : Int)) (by omega) (by omega) (by omega) (by omega)
    rw [show ((m : Int) + 1).toNat = m + 1 by omega, Int.toNat_natCast] at o
    rw [show ((m : Int) + 1 - (j : Int)).toNat = m + 1 - j by omega] at sc
    have e0 : tr0 E m j = (cb (m + 1) j : Nat) * (scV (E (m + 1 - j)) 30030 + (if (m : Int) + 1 - (j : Int) = 1 then 1 else 0) * 30030) := by
      unfold tr0
      rw [if_pos (by omega), show ((m + 1 - j : Nat) : Int) = (m : Int) + 1 - (j : Int) by omega]
    have sm : xsame [37] w (pL w 37 j (jL (tr0 E m j))) := sm_pL (by decide)
    have h2 : cst E t ws me (pL w 37 j (jL (tr0 E m j))) := h.same sm (by decide) h.1.putL
    obtain ⟨w', g1, g2, g3, g4⟩ := ih (j + 1) _ (by omega) (by omega) h2 (fun i h1 h2 => by
      by_cases z : i = j
      · rw [z]; exact ((kl_37 h.1).has (by decide) (by omega)).put
      · exact (H i h1 (by omega)).put z)
    refine ⟨w', g1, sm.trans g2, g3, fun r g => Z_167_20 h.1 ⟨s32, s32, fun q => by omega, fun _ => ⟨_, _, sc, h.1, _, _, ex, h.1, by split <;> exact s32, _, _, o, h.1, ⟨by omega, by omega⟩, fun w20 e20 _ => ?_⟩⟩⟩
    rw [e20, ← e0]
    exact g4 r g
theorem L_167c (ok : okS c E t ws me) {m h : Nat} (m15 : m ≤ 15) (h1 : 1 ≤ h) (hm : 2 * h ≤ m + 1) {R : Nat → Int} (R64 : in64 (stp h R (2 * h - 1))) : ∀ (k i : Nat) (w : xW), i + k = h + 1 → cst E t ws me w → (∀ j, 1 ≤ j → j ≤ m + 1 → rL w 37 j (tMd h i R j)) →
    ∃ w', cst E t ws me w' ∧ xsame [37] w w' ∧ (∀ j, 1 ≤ j → j ≤ m + 1 → rL w' 37 j (stp h R j)) ∧ ∀ r, (stp h R (2 * h - 1) = 0 → xGo 167 88 [some (.ref 0), some (.int (jI (m : Int))), some (.int (jI ((h : Int) - 1))), none, none, none] [] w' r) → (stp h R (2 * h - 1) ≠ 0 → r = (some (.int (jI 0)), w')) → xGo 167 112 [some (.ref 0), some (.int (jI (m : Int))), some (.int (jI (h : Int))), some (.long (jL (R (2 * h)))), none, some (.int (jI (i : Int)))] [] w r := by
  intro k
  induction k with
  | zero =>
    intro i w hi hc H
    have e : i = h + 1 := by omega
    subst e
    have H2 : ∀ j, 1 ≤ j → j ≤ m + 1 → rL w 37 j (stp h R j) := fun j a b => by rw [← tMd_e]; exact H j a b
    exact ⟨w, hc, xsame.rf, H2, fun r g1 g2 => Z_167_112 hc.1 ⟨s32, s32, fun _ => ⟨by omega, _, (by rw [show (2 * (h : Int) - 1).toNat = 2 * h - 1 by omega]; exact H2 (2 * h - 1) (by omega) (by omega)), R64, g1, g2⟩, fun q => by omega⟩⟩
  | succ k ih =>
    intro i w hi hc H
    have o := C_of hc (n := (h : Int)) (k := (i : Int)) (by omega) (by omega) (by omega) (by omega)
    rw [Int.toNat_natCast, Int.toNat_natCast] at o
    obtain ⟨t1, t2, t3⟩ := tMd_s (h := h) (i := i) (R := R)
    have sm : xsame [37] w (pL w 37 (h + i) (jL (tMd h (i + 1) R (h + i)))) := sm_pL (by decide)
    have h2 : cst E t ws me (pL w 37 (h + i) (jL (tMd h (i + 1) R (h + i)))) := hc.same sm (by decide) hc.1.putL
    obtain ⟨w', g1, g2, g3, g4⟩ := ih (i + 1) _ (by omega) h2 (fun j a b => by
      by_cases z : j = h + i
      · rw [z]; exact ((kl_37 hc.1).has (by decide) (by omega)).put
      · rw [t3 j z]; exact (H j a b).put z)
    have r0 := H (h + i) (by omega) (by omega)
    rw [t2] at r0
    refine ⟨w', g1, sm.trans g2, g3, fun r k1 k2 => Z_167_112 hc.1 ⟨s32, s32, fun q => by omega, fun _ => ⟨by omega, _, (by rw [show ((h : Int) + (i : Int)).toNat = h + i by omega]; exact r0), _, _, o, hc.1, ⟨by omega, by omega⟩, fun w16 e16 _ => ?_⟩⟩⟩
    rw [e16, show ((h : Int) + (i : Int)).toNat = h + i by omega, ← t1]
    exact g4 r k1 k2
theorem L_167 (ok : okS c E t ws me) {m : Nat} (m15 : m ≤ 15) (mt : (m : Int) ≤ t) : ∀ (h : Nat) (w : xW), h ≤ (m + 1) / 2 → cst E t ws me w → (∀ j, 1 ≤ j → j ≤ m + 1 → rL w 37 j (tR E m ((m + 1) / 2 - h) j)) → (∀ j, h < j → j ≤ (m + 1) / 2 → rL w 38 j (tK E m j)) → (∀ s, s < (m + 1) / 2 - h → tR E m (s + 1) (2 * ((m + 1) / 2 - s) - 1) = 0) →
    ∃ w', xGo 167 88 [some (.ref 0), some (.int (jI (m : Int))), some (.int (jI (h : Int))), none, none, none] [] w (some (.int (bz (tO E m))), w') ∧ cst E t ws me w' ∧ xsame [37, 38] w w' ∧ (tO E m → ∀ j, 1 ≤ j → j ≤ (m + 1) / 2 → rL w' 38 j (tK E m j)) := by
  intro h
  induction h with
  | zero =>
    intro w hh hc H1 H2 H3
    refine ⟨w, Z_167_88 hc.1 ⟨s32, fun _ => ?_, fun q => by omega⟩, hc, xsame.rf, fun _ j a b => H2 j (by omega) b⟩
    rw [bz_t (tO_t (fun s hs => H3 s (by omega)))]; rfl
  | succ h ih =>
    intro w hh hc H1 H2 H3
    have eh : (m + 1) / 2 - h = ((m + 1) / 2 - (h + 1)) + 1 := by omega
    have eS : tR E m ((m + 1) / 2 - h) = stp (h + 1) (tR E m ((m + 1) / 2 - (h + 1))) := by
      rw [eh]
      show stp ((m + 1) / 2 - ((m + 1) / 2 - (h + 1))) _ = _
      rw [show (m + 1) / 2 - ((m + 1) / 2 - (h + 1)) = h + 1 by omega]
    have r2 := H1 (2 * (h + 1)) (by omega) (by omega)
    have sm1 : xsame [38] w (pL w 38 (h + 1) (jL (tR E m ((m + 1) / 2 - (h + 1)) (2 * (h + 1))))) := sm_pL (by decide)
    have hc1 : cst E t ws me (pL w 38 (h + 1) (jL (tR E m ((m + 1) / 2 - (h + 1)) (2 * (h + 1))))) := hc.same sm1 (by decide) hc.1.putL
    have ib := tR_in ok (s := (m + 1) / 2 - h) (k := 2 * (h + 1) - 1) m15 mt (by omega) (by omega)
    rw [eS] at ib
    obtain ⟨w1, a1, a2, a3, a4⟩ := L_167c ok (m := m) (h := h + 1) m15 (by omega) (by omega) (R := tR E m ((m + 1) / 2 - (h + 1))) ⟨by omega, by omega⟩ (h + 2) 0 _ (by omega) hc1 (fun j a b => by rw [tMd_0]; exact (H1 j a b).sm sm1 (by decide))
    have H2' : ∀ j, h < j → j ≤ (m + 1) / 2 → rL w1 38 j (tK E m j) := fun j a b => by
      by_cases z : j = h + 1
      · rw [z]; exact (((kl_38 hc.1).has (by decide) (by omega)).put).sm a2 (by decide)
      · exact ((H2 j (by omega) b).put z).sm a2 (by decide)
    by_cases q : stp (h + 1) (tR E m ((m + 1) / 2 - (h + 1))) (2 * (h + 1) - 1) = 0
    · obtain ⟨w2, b1, b2, b3, b4⟩ := ih w1 (by omega) a1 (fun j a b => by rw [eS]; exact a3 j a b) H2' (fun s hs => by
        by_cases z : s = (m + 1) / 2 - (h + 1)
        · rw [z, ← eh, eS, show (m + 1) / 2 - ((m + 1) / 2 - (h + 1)) = h + 1 by omega]; exact q
        · exact H3 s (by omega))
      refine ⟨w2, Z_167_88 hc.1 ⟨s32, fun z => by omega, fun _ => ⟨by omega, _, r2, ⟨by omega, by omega⟩, fun w7 e7 _ => ?_⟩⟩, b2, (sm1.mono (by decide)).trans ((a2.mono (by decide)).trans b3), b4⟩
      rw [e7]
      refine a4 _ (fun _ => ?_) (fun z => absurd q z)
      rw [show (((h + 1 : Nat) : Int) - 1) = (h : Int) by omega]
      exact b1
    · have no : ¬ tO E m := fun z => by
        have := tO_e z (s := (m + 1) / 2 - (h + 1)) (by omega)
        rw [← eh, eS, show (m + 1) / 2 - ((m + 1) / 2 - (h + 1)) = h + 1 by omega] at this
        exact q this
      refine ⟨w1, Z_167_88 hc.1 ⟨s32, fun z => by omega, fun _ => ⟨by omega, _, r2, ⟨by omega, by omega⟩, fun w7 e7 _ => ?_⟩⟩, a1, (sm1.mono (by decide)).trans (a2.mono (by decide)), fun z => absurd z no⟩
      rw [e7]
      refine a4 _ (fun z => absurd z q) (fun _ => ?_)
      rw [bz_f no]; rfl
theorem C_split (h : cst E t ws me w) (ok : okS c E t ws me) {m : Nat} (m1 : 1 ≤ m) (m15 : m ≤ 15) (mt : (m : Int) ≤ t) : ∃ w', xCall 167 [.ref 0, .int (jI (m : Int))] w (some (.int (bz (tO E m))), w') ∧ cst E t ws me w' ∧ xsame [37, 38] w w' ∧ (tO E m → ∀ j, 1 ≤ j → j ≤ (m + 1) / 2 → rL w' 38 j (tK E m j)) := by
  obtain ⟨w1, a1, a2, a3, a4⟩ := L_167a ok m15 mt (m + 1) 1 w (by omega) (by omega) h (fun i h1 h2 => by omega)
  obtain ⟨w2, b1, b2, b3, b4⟩ := L_167 ok m15 mt ((m + 1) / 2) w1 (Nat.le_refl _) a1 (fun j p q => by rw [Nat.sub_self]; exact a3 j p q) (fun j p q => by omega) (fun s hs => by omega)
  exact ⟨w2, Z_167 h.1 ⟨s32, fun q => by omega, fun _ => ⟨s32, fun _ => a4 _ b1, fun q => by omega⟩⟩, b2, (a2.mono (by decide)).trans b3, b4⟩
theorem c_triangular (ok : okS c E t ws me) {m j x : Int} (hm : in32 m) (hj : in32 j) (hx : in32 x) : cAns E t ws me E t ws me 166 [.int (jI m), .int (jI j), .int (jI x)] (.long (jL (tgF E t m j x))) := by
  intro w h
  have ht1 := ok.2.1
  have ht := ok.2.2.1
  by_cases v : ((1 ≤ m ∧ m ≤ 15 ∧ m % 2 = 1) ∧ (1 ≤ j ∧ j ≤ (m + 1) / 2)) ∧ (0 ≤ x ∧ x ≤ 1)
  · obtain ⟨⟨⟨m1, m15, m2⟩, j1, jH⟩, x0, x1⟩ := v
    have v : ((1 ≤ m ∧ m ≤ 15 ∧ m % 2 = 1) ∧ (1 ≤ j ∧ j ≤ (m + 1) / 2)) ∧ (0 ≤ x ∧ x ≤ 1) := ⟨⟨⟨m1, m15, m2⟩, j1, jH⟩, x0, x1⟩
    by_cases mt : m ≤ t
    · obtain ⟨w1, a1, a2, a3, a4⟩ := C_split h ok (m := m.toNat) (by omega) (by omega) (by omega)
      have em : ((m.toNat : Nat) : Int) = m := Int.toNat_of_nonneg (by omega)
      rw [em] at a1
      rw [show tgF E t m j x = (if tO E m.toNat then (if x = 0 then enV (trA E m.toNat j.toNat) else (trA E m.toNat j.toNat).2.2) else -3) by unfold tgF; rw [if_pos v, if_pos mt]]
      by_cases o : tO E m.toNat
      · rw [if_pos o]
        have kb := tK_b ok (m := m.toNat) (j := j.toNat) (by omega) (by omega) (by omega) (by omega)
        have sh := jL_shl (a := tK E m.toNat j.toNat) (i := j.toNat) (by omega)
        rw [Int.toNat_of_nonneg (show 0 ≤ j by omega)] at sh
        have bc := bc36 a2.1 (nw := 0) (na := tK E m.toNat j.toNat * ((2 ^ j.toNat : Nat) : Int)) (nb := 30030 * (m + 1)) (by omega) ⟨by omega, by omega⟩ ⟨by omega, by omega⟩
        rw [Int.zero_mul, Int.zero_add] at bc
        have eA : frE (tK E m.toNat j.toNat * ((2 ^ j.toNat : Nat) : Int)) (30030 * (m + 1)) = trA E m.toNat j.toNat := by unfold trA tD; rw [em]
        rw [eA] at bc
        have f := fw a2.1 (trA E m.toNat j.toNat).1 (trA E m.toNat j.toNat).2.1 (trA E m.toNat j.toNat).2.2
        have ol := C_overLine f.2.1
        have sm : xsame [36, 37, 38] w _ := (a3.mono (by decide)).trans (f.2.2.mono (by decide))
        refine ⟨_, Z_166 h.1 ⟨hm, fun q => by omega, fun _ => ⟨fun q => by omega, fun _ => ⟨_, tmN (by omega), s32, fun q => by omega, fun _ => ⟨hx, fun q => by omega, fun _ => ⟨fun _ => ⟨hj, fun q => by omega, fun _ => ⟨s32, _, tdN (by omega), s32, fun _ => ⟨_, h.top, s32, fun _ => ⟨_, _, _, a1, a2.1, fun _ => ⟨by omega, _, a4 o j.toNat (by omega) (by omega), _, sh, _, bc, f.1, fun q => ⟨_, (fw0 f.2.1).2.2, ?_⟩, fun q => ⟨_, _, ol, f.1, ?_⟩⟩, fun q => absurd o q⟩, fun q => by omega⟩, fun q => by omega⟩⟩, fun q => by omega⟩⟩⟩⟩⟩, h.same sm (by decide) f.1, sm.mono (by decide)⟩
        · rw [if_neg q]
        · rw [if_pos q]; rfl
      · rw [if_neg o]
        exact ⟨w1, Z_166 h.1 ⟨hm, fun q => by omega, fun _ => ⟨fun q => by omega, fun _ => ⟨_, tmN (by omega), s32, fun q => by omega, fun _ => ⟨hx, fun q => by omega, fun _ => ⟨fun _ => ⟨hj, fun q => by omega, fun _ => ⟨s32, _, tdN (by omega), s32, fun _ => ⟨_, h.top, s32, fun _ => ⟨_, _, _, a1, a2.1, fun q => absurd q o, fun _ => rfl⟩, fun q => by omega⟩, fun q => by omega⟩⟩, fun q => by omega⟩⟩⟩⟩⟩, a2, a3.mono (by decide)⟩
    · rw [show tgF E t m j x = -2 by unfold tgF; rw [if_pos v, if_neg mt]]
      exact ⟨w, Z_166 h.1 ⟨hm, fun q => by omega, fun _ => ⟨fun q => by omega, fun _ => ⟨_, tmN (by omega), s32, fun q => by omega, fun _ => ⟨hx, fun q => by omega, fun _ => ⟨fun _ => ⟨hj, fun q => by omega, fun _ => ⟨s32, _, tdN (by omega), s32, fun _ => ⟨_, h.top, s32, fun q => by omega, fun _ => rfl⟩, fun q => by omega⟩⟩, fun q => by omega⟩⟩⟩⟩⟩, h, xsame.rf⟩
  · rw [show tgF E t m j x = lNO from if_neg v]
    exact ⟨w, Z_166 h.1 ⟨hm, fun _ => rfl, fun q1 => ⟨fun _ => rfl, fun q2 => ⟨_, tmN (by omega), s32, fun _ => rfl, fun q3 => ⟨hx, fun _ => rfl, fun q4 => ⟨fun q5 => ⟨hj, fun _ => rfl, fun q6 => ⟨s32, _, tdN (by omega), s32, fun q7 => absurd ⟨⟨⟨q1, q2, by omega⟩, q6, q7⟩, q4, q5⟩ v, fun _ => rfl⟩⟩, fun _ => rfl⟩⟩⟩⟩⟩, h, xsame.rf⟩
end T1
