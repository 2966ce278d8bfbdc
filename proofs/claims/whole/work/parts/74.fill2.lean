/-! the class's fills by triangle and by powers; the calls byWay and nothings -/
def tmF (p : Nat) : Nat → Nat → Nat
  | 0, j => (j + 1) ^ (p - 2) % p
  | n + 1, j => tmS p j (tmF p n j) (tmF p n (j + 1))
theorem tmn_get {p : Nat} : ∀ (l : List Nat) (k j a b : Nat), l[j]? = some a → l[j + 1]? = some b → (tmn p k l)[j]? = some (tmS p (k + j) a b)
  | [], k, j, a, b, h1, h2 => by simp at h1
  | [x], k, j, a, b, h1, h2 => by simp at h2
  | x :: y :: l, k, 0, a, b, h1, h2 => by
    have e1 : x = a := by simpa using h1
    have e2 : y = b := by simpa using h2
    rw [← e1, ← e2]; rfl
  | x :: y :: l, k, j + 1, a, b, h1, h2 => by
    have ih := tmn_get (p := p) (y :: l) (k + 1) j a b (by simpa using h1) (by simpa using h2)
    rw [show k + (j + 1) = k + 1 + j by omega]
    exact ih
theorem tmw_get {p : Nat} : ∀ n j : Nat, j + n + 2 ≤ p → (tmw p n)[j]? = some (tmF p n j)
  | 0, j, h => by
    show ((List.range (p - 1)).map (fun j => (j + 1) ^ (p - 2) % p))[j]? = some ((j + 1) ^ (p - 2) % p)
    rw [List.getElem?_map, List.getElem?_range (by omega)]; rfl
  | n + 1, j, h => by
    have a := tmn_get (p := p) (tmw p n) 0 j _ _ (tmw_get n j (by omega)) (tmw_get n (j + 1) (by omega))
    rw [Nat.zero_add] at a
    exact a
theorem tmF_bw {p n : Nat} (hp : p ∈ prN) (hn : n + 2 ≤ p) : (if n = 1 then (tmF p n 0 + p - 1) % p else tmF p n 0) = bwS p n := by
  have a := tck_c p hp
  unfold tck at a
  rw [List.all_eq_true] at a
  have b := eq_of_beq (a n (List.mem_range.mpr (by omega)))
  have g := tmw_get (p := p) n 0 (by omega)
  rw [← b]
  revert g
  cases tmw p n with
  | nil => intro g; simp at g
  | cons x l =>
    intro g
    have e : x = tmF p n 0 := by simpa using g
    rw [e]
theorem tmF_lt {p : Nat} (hp : 0 < p) : ∀ n j : Nat, tmF p n j < p
  | 0, j => Nat.mod_lt _ hp
  | n + 1, j => Nat.mod_lt _ hp
theorem fi_tm {p j : Nat} (h : j + 2 ≤ p) : fi ((j : Int) + 1) p = ((tmF p 0 j : Nat) : Int) := by
  unfold fi
  rw [Int.emod_eq_of_lt (by omega) (by omega), show ((j : Int) + 1).toNat = j + 1 by omega]
  rfl
theorem tmS_i {p j a b : Nat} (ha : a < p) (hb : b < p) : ((j : Int) + 1) * ((a : Int) + p - b) % p = ((tmS p j a b : Nat) : Int) := by
  unfold tmS
  rw [Int.natCast_emod, Int.natCast_mul, show ((a + p - b : Nat) : Int) = (a : Int) + p - b by omega]
  rfl
section F8
variable {c : Nat} {E : eT} {t : Int} {ws : Nat → Int} {me : memT} {w : xW}
theorem L_125a {p : Nat} (hp : p ∈ prN) : ∀ (k i : Nat) (w : xW), i + k + 1 = p → CS w → (∀ j, j < i → rL w 30 j ((tmF p 0 j : Nat) : Int)) →
    ∃ w', CS w' ∧ xsame [30] w w' ∧ (∀ j, j + 2 ≤ p → rL w' 30 j ((tmF p 0 j : Nat) : Int)) ∧ ∀ s, xGo 125 41 [some (.ref 28), some (.int (jI (p : Int))), some (.int (jI 0)), none] [] w' s → xGo 125 2 [some (.ref 28), some (.int (jI (p : Int))), some (.int (jI (i : Int))), none] [] w s := by
  have pb := prN_b p hp
  intro k
  induction k with
  | zero =>
    intro i w hi hC H
    exact ⟨w, hC, xsame.rf, fun j hj => H j (by omega), fun s g => Z_125_2 hC ⟨s32, s32, fun _ => g, fun q => by omega⟩⟩
  | succ k ih =>
    intro i w hi hC H
    have nd : ¬ (p : Int) ∣ ((i : Int) + 1) := fun z => by have := Int.le_of_dvd (by omega) z; omega
    have fb := fi_le (b := (i : Int) + 1) (p := p) (by omega)
    have inv := C_invN (a := (i : Int) + 1) (m := (p : Int)) (y := fi ((i : Int) + 1) p) s64 (by omega) (by omega) fb.1 fb.2 (fi_one hp nd) w
    rw [fi_tm (by omega)] at inv
    have sm : xsame [30] w (pL w 30 i (jL ((tmF p 0 i : Nat) : Int))) := sm_pL (by decide)
    obtain ⟨w', g1, g2, g3, g4⟩ := ih (i + 1) (pL w 30 i (jL ((tmF p 0 i : Nat) : Int))) (by omega) hC.putL (fun j hj => by
      by_cases z : j = i
      · rw [z]; exact ((kl_30 hC).has (by decide) (by omega)).put
      · exact (H j (by omega)).put z)
    exact ⟨w', g1, sm.trans g2, g3, fun s g => Z_125_2 hC ⟨s32, s32, fun q => by omega, fun _ => ⟨fun q => by omega, fun _ => ⟨s32, s32, _, _, inv, hC, ⟨by omega, by omega⟩, fun w11 e11 _ => by rw [e11]; exact g4 s g⟩⟩⟩⟩
theorem L_125b {p n : Nat} (hp : p ∈ prN) (n2 : n + 2 ≤ p) : ∀ (k i : Nat) (w : xW), i + k + n + 2 = p → CS w → (∀ j, j < i → rL w 30 j ((tmF p (n + 1) j : Nat) : Int)) → (∀ j, i ≤ j → j + n + 2 ≤ p → rL w 30 j ((tmF p n j : Nat) : Int)) →
    ∃ w', CS w' ∧ xsame [30] w w' ∧ (∀ j, j + (n + 1) + 2 ≤ p → rL w' 30 j ((tmF p (n + 1) j : Nat) : Int)) ∧ ∀ s, xGo 125 41 [some (.ref 28), some (.int (jI (p : Int))), some (.int (jI ((n : Int) + 1))), none] [] w' s → xGo 125 71 [some (.ref 28), some (.int (jI (p : Int))), some (.int (jI (n : Int))), some (.int (jI (i : Int)))] [] w s := by
  have pb := prN_b p hp
  intro k
  induction k with
  | zero =>
    intro i w hi hC H1 H2
    exact ⟨w, hC, xsame.rf, fun j hj => H1 j (by omega), fun s g => Z_125_71 hC ⟨s32, s32, fun _ => g, fun q => by omega⟩⟩
  | succ k ih =>
    intro i w hi hC H1 H2
    have a := H2 i (Nat.le_refl i) (by omega)
    have b := H2 (i + 1) (by omega) (by omega)
    have la := tmF_lt (p := p) (by omega) n i
    have lb := tmF_lt (p := p) (by omega) n (i + 1)
    have mm := mul_b (a := (i : Int) + 1) (A := 200) (b := ((tmF p n i : Nat) : Int) + p - ((tmF p n (i + 1) : Nat) : Int)) (B := 400) (by omega) (by omega) (by omega) (by omega)
    have e := tmS_i (p := p) (j := i) la lb
    have sm : xsame [30] w (pL w 30 i (jL ((tmF p (n + 1) i : Nat) : Int))) := sm_pL (by decide)
    obtain ⟨w', g1, g2, g3, g4⟩ := ih (i + 1) (pL w 30 i (jL ((tmF p (n + 1) i : Nat) : Int))) (by omega) hC.putL (fun j hj => by
      by_cases z : j = i
      · rw [z]; exact ((kl_30 hC).has (by decide) (by omega)).put
      · exact (H1 j (by omega)).put z) (fun j h1 h2 => (H2 j (by omega) h2).put (by omega))
    refine ⟨w', g1, sm.trans g2, g3, fun s g => Z_125_71 hC ⟨s32, s32, fun q => by omega, fun _ => ⟨s32, fun q => by omega, fun _ => ⟨by omega, _, a, s32, by omega, _, b, ⟨by omega, by omega⟩, by omega, _, tmN mm.1, ⟨by omega, by omega⟩, fun w17 e17 _ => ?_⟩⟩⟩⟩
    rw [e17, e]
    exact g4 s g
theorem L_125 {p : Nat} (hp : p ∈ prN) : ∀ (f n : Nat) (w : xW), n + f + 1 = p → CS w → (∀ j, j + n + 2 ≤ p → rL w 30 j ((tmF p n j : Nat) : Int)) → (∀ i, i < n → rL w 29 i ((tmF p i 0 : Nat) : Int)) →
    ∃ w', xGo 125 41 [some (.ref 28), some (.int (jI (p : Int))), some (.int (jI (n : Int))), none] [] w (none, w') ∧ CS w' ∧ xsame [29, 30] w w' ∧ ∀ i, i + 2 ≤ p → rL w' 29 i ((bwS p i : Nat) : Int) := by
  have pb := prN_b p hp
  intro f
  induction f with
  | zero =>
    intro n w hn hC H30 H29
    have r1 := H29 1 (by omega)
    have l1 := tmF_lt (p := p) (by omega) 1 0
    have sm : xsame [29] w (pL w 29 1 (jL ((bwS p 1 : Nat) : Int))) := sm_pL (by decide)
    have e : (((tmF p 1 0 : Nat) : Int) + p - 1) % p = ((bwS p 1 : Nat) : Int) := by
      have b := tmF_bw hp (n := 1) (by omega)
      rw [if_pos rfl] at b
      rw [← b, Int.natCast_emod, show ((tmF p 1 0 + p - 1 : Nat) : Int) = ((tmF p 1 0 : Nat) : Int) + p - 1 by omega]
    refine ⟨pL w 29 1 (jL ((bwS p 1 : Nat) : Int)), Z_125_41 hC ⟨s32, s32, fun _ => ⟨_, r1, s32, ⟨by omega, by omega⟩, by omega, _, tmN (by omega), fun w11 e11 _ => by rw [e11, e]⟩, fun q => by omega⟩, hC.putL, sm.mono (by decide), fun i hi => ?_⟩
    by_cases i1 : i = 1
    · rw [i1]; exact ((kl_29 hC).has (by decide) (by decide)).put
    · have b := tmF_bw hp (n := i) hi
      rw [if_neg i1] at b
      rw [← b]
      exact (H29 i (by omega)).put i1
  | succ f ih =>
    intro n w hn hC H30 H29
    have s1 : xsame [29] w (pL w 29 n (jL ((tmF p n 0 : Nat) : Int))) := sm_pL (by decide)
    obtain ⟨w1, a1, a2, a3, a4⟩ := L_125b hp (n := n) (by omega) (p - 2 - n) 0 (pL w 29 n (jL ((tmF p n 0 : Nat) : Int))) (by omega) hC.putL (fun j hj => by omega) (fun j _ hj => (H30 j hj).sm s1 (by decide))
    obtain ⟨w2, b1, b2, b3, b4⟩ := ih (n + 1) w1 (by omega) a1 a3 (fun i hi => by
      by_cases z : i = n
      · rw [z]; exact (((kl_29 hC).has (by decide) (by omega)).put).sm a2 (by decide)
      · exact ((H29 i (by omega)).put z).sm a2 (by decide))
    exact ⟨w2, Z_125_41 hC ⟨s32, s32, fun q => by omega, fun _ => ⟨fun q => by omega, fun _ => ⟨_, H30 0 (by omega), ⟨by omega, by omega⟩, fun w27 e27 _ => by rw [e27]; exact a4 _ b1⟩⟩⟩, b2, (s1.mono (by decide)).trans ((a2.mono (by decide)).trans b3), b4⟩
theorem C_fillTri {w : xW} (hC : CS w) {p : Nat} (hp : p ∈ prN) : ∃ w', xCall 125 [.ref 28, .int (jI (p : Int))] w (none, w') ∧ CS w' ∧ xsame [29, 30] w w' ∧ ∀ i, i + 2 ≤ p → rL w' 29 i ((bwS p i : Nat) : Int) := by
  have pb := prN_b p hp
  obtain ⟨w1, a1, a2, a3, a4⟩ := L_125a hp (p - 1) 0 w (by omega) hC (fun j hj => by omega)
  obtain ⟨w2, b1, b2, b3, b4⟩ := L_125 hp (p - 1) 0 w1 (by omega) a1 a3 (fun i hi => by omega)
  exact ⟨w2, Z_125 hC (a4 _ b1), b2, (a2.mono (by decide)).trans b3, b4⟩
/-! by powers -/
def qsS (M n : Nat) : Nat → Nat
  | 0 => 0
  | a + 1 => qsS M n a + (if a = 0 then 0 else a ^ n % M)
theorem qsS_m (M n : Nat) : ∀ a : Nat, qsS M n a % M = psum n a % M
  | 0 => rfl
  | a + 1 => by
    have ih := qsS_m M n a
    show (qsS M n a + (if a = 0 then 0 else a ^ n % M)) % M = (psum n a + (if a = 0 then 0 else a ^ n)) % M
    by_cases z : a = 0
    · rw [if_pos z, if_pos z]; exact ih
    · rw [if_neg z, if_neg z, Nat.add_mod, ih, Nat.mod_mod, ← Nat.add_mod]
theorem qsS_b {M n : Nat} (hM : 0 < M) : ∀ a : Nat, qsS M n a ≤ a * M
  | 0 => Nat.zero_le _
  | a + 1 => by
    have ih := qsS_b (n := n) hM a
    have l := Nat.mod_lt (a ^ n) hM
    show qsS M n a + (if a = 0 then 0 else a ^ n % M) ≤ (a + 1) * M
    rw [Nat.add_mul, Nat.one_mul]
    split <;> omega
theorem L_126a {p n : Nat} (hp : p ∈ prN) (n2 : n + 2 + 3 ≤ p) : ∀ (k a : Nat) (w : xW), a + k = p → 1 ≤ a → CS w → (∀ j, 1 ≤ j → j < p → rL w 30 j (((if j < a then j ^ (n + 2) else j ^ n) % (p * p) : Nat) : Int)) →
    ∃ w', CS w' ∧ xsame [30] w w' ∧ (∀ j, 1 ≤ j → j < p → rL w' 30 j ((j ^ (n + 2) % (p * p) : Nat) : Int)) ∧ ∀ s, xGo 126 52 [some (.ref 28), some (.int (jI (p : Int))), some (.long (jL ((p : Int) * p))), none, some (.int (jI (((n + 2 : Nat) : Int) + 2))), none, none, none] [] (pL w' 29 (n + 2) (jL ((psum (n + 2) p % (p * p) / p : Nat) : Int))) s → xGo 126 76 [some (.ref 28), some (.int (jI (p : Int))), some (.long (jL ((p : Int) * p))), none, some (.int (jI ((n + 2 : Nat) : Int))), some (.long (jL ((qsS (p * p) (n + 2) a : Nat) : Int))), none, some (.int (jI (a : Int)))] [] w s := by
  have pb := prN_b p hp
  have pc := pcub pb.1 pb.2
  have ep : ((p * p : Nat) : Int) = (p : Int) * p := Int.natCast_mul p p
  intro k
  induction k with
  | zero =>
    intro a w ha a1 hC H
    have e : a = p := by omega
    subst e
    have qb := qsS_b (M := a * a) (n := n + 2) (by omega) a
    have qb2 : a * (a * a) ≤ 199 * 39601 := Nat.mul_le_mul (by omega) pc.2.1
    have m1 : Int.tmod ((qsS (a * a) (n + 2) a : Nat) : Int) ((a : Int) * a) = ((psum (n + 2) a % (a * a) : Nat) : Int) := by
      rw [tmN (by omega), ← ep, ← Int.natCast_emod, qsS_m]
    have m2 : Int.tdiv ((psum (n + 2) a % (a * a) : Nat) : Int) (a : Int) = ((psum (n + 2) a % (a * a) / a : Nat) : Int) := by
      rw [tdN (by omega), Int.natCast_ediv]
    have ml := Nat.mod_lt (psum (n + 2) a) (show 0 < a * a by omega)
    refine ⟨w, hC, xsame.rf, fun j h1 h2 => by have := H j h1 h2; rw [if_pos h2] at this; exact this, fun s g => Z_126_76 hC ⟨s32, s32, fun _ => ⟨⟨by omega, by omega⟩, by rw [← ep]; exact ⟨by omega, by omega⟩, by rw [← ep]; omega, _, m1, ⟨by omega, by omega⟩, by omega, _, m2, ⟨by omega, by omega⟩, fun w14 e14 _ => ?_⟩, fun q => by omega⟩⟩
    rw [e14]
    exact g
  | succ k ih =>
    intro a w ha a1 hC H
    have r := H a a1 (by omega)
    rw [if_neg (by omega)] at r
    have ml := Nat.mod_lt (a ^ n) (show 0 < p * p by omega)
    have aa : a * a ≤ 39601 := by
      have := Nat.mul_le_mul (show a ≤ 199 by omega) (show a ≤ 199 by omega)
      omega
    have xm := mul_b (a := ((a ^ n % (p * p) : Nat) : Int)) (A := 40000) (b := (a : Int) * (a : Int)) (B := 40000) (by omega) (by omega) (by rw [← Int.natCast_mul]; omega) (by rw [← Int.natCast_mul]; omega)
    have em : Int.tmod (((a ^ n % (p * p) : Nat) : Int) * ((a : Int) * (a : Int))) ((p : Int) * p) = ((a ^ (n + 2) % (p * p) : Nat) : Int) := by
      rw [tmN xm.1, ← Int.natCast_mul a a, ← Int.natCast_mul, ← ep, ← Int.natCast_emod, Nat.pow_succ, Nat.pow_succ, Nat.mul_assoc]
      congr 1
      rw [Nat.mul_mod, Nat.mod_mod, ← Nat.mul_mod]
    have sm : xsame [30] w (pL w 30 a (jL ((a ^ (n + 2) % (p * p) : Nat) : Int))) := sm_pL (by decide)
    have pr : rL (pL w 30 a (jL ((a ^ (n + 2) % (p * p) : Nat) : Int))) 30 a ((a ^ (n + 2) % (p * p) : Nat) : Int) := ((kl_30 hC).has (by decide) (by omega)).put
    obtain ⟨w', g1, g2, g3, g4⟩ := ih (a + 1) (pL w 30 a (jL ((a ^ (n + 2) % (p * p) : Nat) : Int))) (by omega) (by omega) hC.putL (fun j h1 h2 => by
      by_cases z : j = a
      · rw [z, if_pos (by omega)]; exact pr
      · have := H j h1 h2
        by_cases y : j < a
        · rw [if_pos y] at this; rw [if_pos (by omega)]; exact this.put z
        · rw [if_neg y] at this; rw [if_neg (by omega)]; exact this.put z)
    have eq : qsS (p * p) (n + 2) (a + 1) = qsS (p * p) (n + 2) a + a ^ (n + 2) % (p * p) := by
      show qsS (p * p) (n + 2) a + (if a = 0 then 0 else a ^ (n + 2) % (p * p)) = _
      rw [if_neg (by omega)]
    rw [eq, Int.natCast_add] at g4
    refine ⟨w', g1, sm.trans g2, g3, fun s g => Z_126_76 hC ⟨s32, s32, fun q => by omega, fun _ => ⟨fun q => by omega, fun _ => ⟨by omega, _, r, ⟨by rw [← Int.natCast_mul]; omega, by rw [← Int.natCast_mul]; omega⟩, ⟨by omega, by omega⟩, by rw [← ep]; exact ⟨by omega, by omega⟩, by rw [← ep]; omega, _, em, ⟨by omega, by omega⟩, fun w40 e40 _ => ?_⟩⟩⟩⟩
    rw [e40]
    exact ⟨by omega, _, pr, g4 s g⟩
theorem L_126 {p : Nat} (hp : p ∈ prN) : ∀ (f n : Nat) (w : xW), p < n + 2 * f + 5 → n % 2 = 0 → n + 3 ≤ p → CS w → (∀ j, 1 ≤ j → j < p → rL w 30 j ((j ^ n % (p * p) : Nat) : Int)) → (∀ i, i < 200 → rL w 29 i (if i ≤ n + 1 then ((bwS p i : Nat) : Int) else 0)) →
    ∃ w', xGo 126 52 [some (.ref 28), some (.int (jI (p : Int))), some (.long (jL ((p : Int) * p))), none, some (.int (jI ((n + 2 : Nat) : Int))), none, none, none] [] w (none, w') ∧ CS w' ∧ xsame [29, 30] w w' ∧ ∀ i, i + 2 ≤ p → rL w' 29 i ((bwS p i : Nat) : Int) := by
  have pb := prN_b p hp
  have podd : p % 2 = 1 := by
    have : ∀ q ∈ prN, q % 2 = 1 := by decide
    exact this p hp
  have fin : ∀ (n : Nat) (w : xW), n % 2 = 0 → n + 3 ≤ p → p < n + 5 → (∀ i, i < 200 → rL w 29 i (if i ≤ n + 1 then ((bwS p i : Nat) : Int) else 0)) → ∀ i, i + 2 ≤ p → rL w 29 i ((bwS p i : Nat) : Int) := by
    intro n w n2 n3 n5 H i hi
    have := H i (by omega)
    rw [if_pos (by omega)] at this
    exact this
  intro f
  induction f with
  | zero =>
    intro n w hf n2 n3 hC H30 H29
    exact ⟨w, Z_126_52 hC ⟨s32, s32, fun _ => rfl, fun q => by omega⟩, hC, xsame.rf, fin n w n2 n3 (by omega) H29⟩
  | succ f ih =>
    intro n w hf n2 n3 hC H30 H29
    by_cases q : n + 5 ≤ p
    · obtain ⟨w1, a1, a2, a3, a4⟩ := L_126a hp (n := n) (by omega) (p - 1) 1 w (by omega) (by omega) hC (fun j h1 h2 => by rw [if_neg (by omega)]; exact H30 j h1 h2)
      have sm : xsame [29] w1 (pL w1 29 (n + 2) (jL ((psum (n + 2) p % (p * p) / p : Nat) : Int))) := sm_pL (by decide)
      have eb : bwS p (n + 2) = psum (n + 2) p % (p * p) / p := by
        unfold bwS
        rw [if_neg (by omega), if_neg (by omega), if_neg (by omega)]
      have eo : bwS p (n + 3) = 0 := by
        unfold bwS
        rw [if_neg (by omega), if_neg (by omega), if_pos (by omega)]
      obtain ⟨w2, b1, b2, b3, b4⟩ := ih (n + 2) (pL w1 29 (n + 2) (jL ((psum (n + 2) p % (p * p) / p : Nat) : Int))) (by omega) (by omega) (by omega) a1.putL (fun j h1 h2 => (a3 j h1 h2).sm sm (by decide)) (fun i hi => by
        by_cases z : i = n + 2
        · rw [z, if_pos (by omega), eb]; exact ((kl_29 a1).has (by decide) (by omega)).put
        · have := (H29 i hi).sm a2 (by decide)
          by_cases y : i ≤ n + 1
          · rw [if_pos y] at this; rw [if_pos (by omega)]; exact this.put z
          · rw [if_neg y] at this
            by_cases y2 : i = n + 3
            · rw [if_pos (by omega), y2, eo]; rw [y2] at this; exact this.put (by omega)
            · rw [if_neg (by omega)]; exact this.put z)
      have g := a4 _ b1
      exact ⟨w2, Z_126_52 hC ⟨s32, s32, fun z => by omega, fun _ => ⟨fun z => by omega, fun _ => g⟩⟩, b2, (a2.mono (by decide)).trans ((sm.mono (by decide)).trans b3), b4⟩
    · exact ⟨w, Z_126_52 hC ⟨s32, s32, fun _ => rfl, fun z => by omega⟩, hC, xsame.rf, fin n w n2 n3 (by omega) H29⟩
theorem C_fillPow {w : xW} (hC : CS w) {p : Nat} (hp : p ∈ prN) : ∃ w', xCall 126 [.ref 28, .int (jI (p : Int))] w (none, w') ∧ CS w' ∧ xsame [29, 30] w w' ∧ ∀ i, i + 2 ≤ p → rL w' 29 i ((bwS p i : Nat) : Int) := by
  have pb := prN_b p hp
  have pc := pcub pb.1 pb.2
  have podd : p % 2 = 1 := by
    have : ∀ q ∈ prN, q % 2 = 1 := by decide
    exact this p hp
  obtain ⟨w1, a1, a2, a3, a4⟩ := C_fillG hC (a := 29) (n := 200) (v := 0) (by decide) (kl_29 hC)
  obtain ⟨w2, b1, b2, b3, b4⟩ := C_fillG a2 (a := 30) (n := 200) (v := 1) (by decide) (kl_30 a2)
  have s1 : xsame [29] w2 (pL w2 29 0 (jL 1)) := sm_pL (by decide)
  have s2 : xsame [29] (pL w2 29 0 (jL 1)) (pL (pL w2 29 0 (jL 1)) 29 1 (jL ((bwS p 1 : Nat) : Int))) := sm_pL (by decide)
  have e1 : bwS p 1 = (p - 1) / 2 := rfl
  have inv := C_invN (a := 2) (m := (p : Int)) (y := (((p + 1) / 2 : Nat) : Int)) s64 (by omega) (by omega) (by omega) (by omega) ⟨1, by omega⟩ (pL w2 29 0 (jL 1))
  have tm : Int.tmod ((p : Int) - (((p + 1) / 2 : Nat) : Int)) p = ((bwS p 1 : Nat) : Int) := by
    rw [tmN (by omega), Int.emod_eq_of_lt (by omega) (by omega), e1]
    omega
  have m1 : 1 % (p * p) = 1 := Nat.mod_eq_of_lt (by omega)
  obtain ⟨w3, d1, d2, d3, d4⟩ := L_126 hp 100 0 (pL (pL w2 29 0 (jL 1)) 29 1 (jL ((bwS p 1 : Nat) : Int))) (by omega) rfl (by omega) b2.putL.putL (fun j h1 h2 => by
    rw [Nat.pow_zero, m1]
    exact ((b4 j (by omega)).sm s1 (by decide)).sm s2 (by decide)) (fun i hi => by
    by_cases i0 : i = 0
    · rw [i0]
      exact (((kl_29 b2).has (by decide) (by decide)).put).put (by decide)
    · by_cases i1 : i = 1
      · rw [i1, if_pos (by decide)]
        exact ((kl_29 b2.putL).has (by decide) (by decide)).put
      · rw [if_neg (by omega)]
        exact ((((a4 i hi).sm b3 (by decide)).put i0).put i1))
  exact ⟨w3, Z_126 hC ⟨s32, _, a1, a2, _, b1, b2, fun w9 e9 h9 => by
    rw [e9]
    exact ⟨_, _, inv, b2.putL, ⟨by omega, by omega⟩, by omega, _, tm, fun w20 e20 _ => by rw [e20]; exact d1⟩⟩, d2, (a3.mono (by decide)).trans ((b3.mono (by decide)).trans ((s1.mono (by decide)).trans ((s2.mono (by decide)).trans d3))), d4⟩
end F8
