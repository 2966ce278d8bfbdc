/-! the model's digits -/
section D0
variable {c : Nat} {E : eT} {t : Int} {ws : Nat → Int} {me : memT} {w : xW}
theorem dq_1 (k : Nat) : dq 1 (k + 1) = 0 := by rw [dq_s]; exact dq_z k
theorem pw_00 : ∀ n : Nat, pwS 0 n = (n : Int)
  | 0 => rfl
  | n + 1 => by
    show pwS 0 n + ((n : Int) + 1) ^ 0 = ((n + 1 : Nat) : Int)
    rw [pw_00 n, Int.pow_zero]; rfl
theorem L_281a {m n : Int} : ∀ (k i : Nat) (w : xW), i + k = 32 → CS w → (∀ j, j < i → rL w 56 j 0 ∧ rL w 57 j (if j = 0 then 1 else 0)) →
    ∃ w', CS w' ∧ xsame [56, 57] w w' ∧ (∀ j, j < 32 → rL w' 56 j 0 ∧ rL w' 57 j (if j = 0 then 1 else 0)) ∧ ∀ s, xGo 281 2 [some (.ref 39), some (.int (jI m)), some (.int (jI n)), some (.int (jI 32))] [] w' s → xGo 281 2 [some (.ref 39), some (.int (jI m)), some (.int (jI n)), some (.int (jI (i : Int)))] [] w s := by
  intro k
  induction k with
  | zero =>
    intro i w hi hC H
    have e : i = 32 := by omega
    subst e
    exact ⟨w, hC, xsame.rf, H, fun s g => g⟩
  | succ k ih =>
    intro i w hi hC H
    have s1 : xsame [56] w (pL w 56 i (jL 0)) := sm_pL (by decide)
    have s2 : xsame [57] (pL w 56 i (jL 0)) (pL (pL w 56 i (jL 0)) 57 i (jL (if i = 0 then 1 else 0))) := sm_pL (by decide)
    obtain ⟨w', g1, g2, g3, g4⟩ := ih (i + 1) (pL (pL w 56 i (jL 0)) 57 i (jL (if i = 0 then 1 else 0))) (by omega) hC.putL.putL (fun j hj => by
      by_cases z : j = i
      · rw [z]
        exact ⟨(((kl_56 hC).has (by decide) (by omega)).put).sm s2 (by decide), ((kl_57 hC.putL).has (by decide) (by omega)).put⟩
      · have r := H j (by omega)
        exact ⟨(r.1.put z).sm s2 (by decide), (r.2.sm s1 (by decide)).put z⟩)
    refine ⟨w', g1, (s1.mono (by decide)).trans ((s2.mono (by decide)).trans g2), g3, fun s g => Z_281_2 hC ⟨s32, fun q => by omega, fun _ => ⟨⟨by omega, by omega⟩, fun w23 e23 _ => ⟨fun q w26 e26 _ => ?_, fun q w29 e29 _ => ?_⟩⟩⟩⟩
    · rw [if_neg (by omega)] at g4
      rw [e26, e23]; exact g4 s g
    · rw [if_pos (by omega)] at g4
      rw [e29, e23]; exact g4 s g
theorem L_281 {m n : Nat} (m1 : 1 ≤ m) (m24 : m ≤ 24) (n9 : n ≤ 1000000000) : ∀ (k j : Nat) (w : xW), j + k = m + 1 → 1 ≤ j → j ≤ n + 1 → CS w → bn w 57 32 (ffI ((n : Int) + 1) j) → bn w 56 32 (fSm m n (j - 1)) → (∀ i, i < 26 → rL w 58 i (kd m i)) →
    ∃ w', xGo 281 80 [some (.ref 39), some (.int (jI (m : Int))), some (.int (jI (n : Int))), some (.int (jI (j : Int)))] [] w (none, w') ∧ CS w' ∧ xsame [56, 57, 59] w w' ∧ bn w' 56 32 (pwS m n) := by
  intro k
  induction k with
  | zero =>
    intro j w hj j1 jn hC H1 H2 H3
    have e : j - 1 = m := by omega
    rw [e, fSm_p m1] at H2
    exact ⟨w, Z_281_80 hC ⟨s32, s32, fun _ => rfl, fun q => by omega⟩, hC, xsame.rf, H2⟩
  | succ k ih =>
    intro j w hj j1 jn hC H1 H2 H3
    by_cases q : n < j
    · have e : fSm m n (j - 1) = pwS m n := by
        have a := fSm_keep m n (m - (j - 1)) (j - 1) (by omega)
        rw [show j - 1 + (m - (j - 1)) = m by omega, fSm_p m1] at a
        exact a.symm
      rw [e] at H2
      exact ⟨w, Z_281_80 hC ⟨s32, s32, fun z => by omega, fun _ => ⟨s32, fun _ => rfl, fun z => by omega⟩⟩, hC, xsame.rf, H2⟩
    · obtain ⟨w1, a1, a2, a3, a4⟩ := C_times hC (f := (n : Int) + 1 - (j : Int)) (by omega) (by omega) H1
      have eF : ffI ((n : Int) + 1) j * ((n : Int) + 1 - (j : Int)) = ffI ((n : Int) + 1) (j + 1) := rfl
      rw [eF] at a4
      have kb := kd_b (m := m) (j := j) (by omega) (by omega)
      have hV := ff_dq (n := n) (j := j + 1) n9 (by omega) (by omega)
      have gs := gs_ff j n
      have eG : ffI ((n : Int) + 1) (j + 1) / ((j : Int) + 1) = gsI j n := by
        rw [← gs]
        exact Int.mul_ediv_cancel_left _ (by omega)
      obtain ⟨w2, b1, b2, b3, b4⟩ := C_addsRow a2 (b := (j : Int) + 1) (o := kd m j % 1000000000) (u := 0) (by omega) (by omega) (by omega) (by omega) (by decide) hV a4 (H2.sm a3 (by decide))
      rw [if_pos rfl, Int.mul_one, eG] at b4
      obtain ⟨w3, d1, d2, d3, d4⟩ := C_addsRow b2 (b := (j : Int) + 1) (o := kd m j / 1000000000) (u := 1) (by omega) (by omega) (by omega) (by omega) (by decide) hV (a4.sm b3 (by decide)) b4
      rw [if_neg (by decide), eG] at d4
      have eS : fSm m n (j - 1) + gsI j n * (kd m j % 1000000000) + gsI j n * (kd m j / 1000000000) * 1000000000 = fSm m n (j + 1 - 1) := by
        rw [show j + 1 - 1 = (j - 1) + 1 by omega]
        show _ = fSm m n (j - 1) + kd m (j - 1 + 1) * gsI (j - 1 + 1) n
        rw [show j - 1 + 1 = j by omega, Int.mul_comm (kd m j)]
        have dm := dm_e (kd m j) 1000000000
        have s : gsI j n * kd m j = gsI j n * (kd m j / 1000000000 * 1000000000 + kd m j % 1000000000) := by rw [← dm]
        rw [s, Int.mul_add, Int.mul_assoc]
        omega
      rw [eS] at d4
      have sm : xsame [56, 57, 59] w w3 := (a3.mono (by decide)).trans ((b3.mono (by decide)).trans (d3.mono (by decide)))
      obtain ⟨w4, g1, g2, g3, g4⟩ := ih (j + 1) w3 (by omega) (by omega) (by omega) d2 ((a4.sm b3 (by decide)).sm d3 (by decide)) d4 (fun i hi => (H3 i hi).sm sm (by decide))
      have r1 : rL w1 58 j (kd m j) := (H3 j (by omega)).sm a3 (by decide)
      exact ⟨w4, Z_281_80 hC ⟨s32, s32, fun z => by omega, fun _ => ⟨s32, fun z => by omega, fun _ => ⟨_, a1, a2, by omega, _, r1, ⟨by omega, by omega⟩, _, tmN kb.1, _, b1, b2, by omega, _, r1.sm b3 (by decide), ⟨by omega, by omega⟩, _, tdN kb.1, _, d1, d2, g1⟩⟩⟩, g2, sm.trans g3, g4⟩
theorem C_laysFull (h : mst E t ws me w) {m n : Nat} (m24 : m ≤ 24) (n9 : n ≤ 1000000000) : ∃ w', xCall 281 [.ref 39, .int (jI (m : Int)), .int (jI (n : Int))] w (none, w') ∧ mst E t ws me w' ∧ xsame [56, 57, 58, 59] w w' ∧ bn w' 56 32 (pwS m n) := by
  obtain ⟨w1, a1, a2, a3, a4⟩ := L_281a (m := (m : Int)) (n := (n : Int)) 32 0 w rfl h.1 (fun j hj => by omega)
  by_cases m0 : m = 0
  · have s1 : xsame [56] w1 (pL w1 56 0 (jL ((n : Int) % 1000000000))) := sm_pL (by decide)
    have s2 : xsame [56] (pL w1 56 0 (jL ((n : Int) % 1000000000))) (pL (pL w1 56 0 (jL ((n : Int) % 1000000000))) 56 1 (jL ((n : Int) / 1000000000))) := sm_pL (by decide)
    have sm : xsame [56, 57, 58, 59] w (pL (pL w1 56 0 (jL ((n : Int) % 1000000000))) 56 1 (jL ((n : Int) / 1000000000))) := (a2.mono (by decide)).trans ((s1.mono (by decide)).trans (s2.mono (by decide)))
    have g : xGo 281 2 [some (.ref 39), some (.int (jI (m : Int))), some (.int (jI (n : Int))), some (.int (jI 32))] [] w1 (none, pL (pL w1 56 0 (jL ((n : Int) % 1000000000))) 56 1 (jL ((n : Int) / 1000000000))) :=
      Z_281_2 a1 ⟨s32, fun _ => ⟨s32, fun q => by omega, fun _ => ⟨s32, _, tmN (by omega), fun w14 e14 _ => ⟨_, tdN (by omega), fun w19 e19 _ => by rw [e19, e14]⟩⟩⟩, fun q => by omega⟩
    refine ⟨_, Z_281 h.1 (a4 _ g), h.same1 sm a1.putL.putL, sm, fun k hk => ?_⟩
    rw [m0, pw_00]
    by_cases k0 : k = 0
    · rw [k0]
      exact (((kl_56 a1).has (by decide) (by decide)).put).put (by decide)
    · by_cases k1 : k = 1
      · rw [k1]
        show rL _ 56 1 ((n : Int) / 1000000000 % 1000000000)
        rw [show (n : Int) / 1000000000 % 1000000000 = (n : Int) / 1000000000 by omega]
        exact ((kl_56 a1.putL).has (by decide) (by decide)).put
      · have z : dq (n : Int) k = 0 := by
          rw [show k = (k - 2) + 1 + 1 by omega, dq_s, dq_s, show (n : Int) / 1000000000 / 1000000000 = 0 by omega]
          exact dq_z _
        rw [z]
        exact (((a3 k hk).1.put k0).put k1)
  · have b56 : bn w1 56 32 (fSm m n (1 - 1)) := fun k hk => by
      show rL w1 56 k (dq 0 k % 1000000000)
      rw [dq_z]; exact (a3 k hk).1
    have b57 : bn w1 57 32 1 := fun k hk => by
      have r := (a3 k hk).2
      by_cases k0 : k = 0
      · rw [k0]; rw [k0] at r; exact r
      · rw [if_neg k0] at r
        rw [show k = (k - 1) + 1 by omega, dq_1, ← show k = (k - 1) + 1 by omega]; exact r
    obtain ⟨w2, b1, b2, b3, b4⟩ := C_laysKinds a1 (m := m) m24
    obtain ⟨w3, d1, d2, d3, d4⟩ := C_times b2 (f := (n : Int) + 1) (by omega) (by omega) (b57.sm b3 (by decide))
    have e1 : (1 : Int) * ((n : Int) + 1) = ffI ((n : Int) + 1) 1 := by
      show 1 * ((n : Int) + 1) = 1 * ((n : Int) + 1 - ((0 : Nat) : Int))
      omega
    rw [e1] at d4
    obtain ⟨w4, g1, g2, g3, g4⟩ := L_281 (m := m) (n := n) (by omega) m24 n9 m 1 w3 (by omega) (by decide) (by omega) d2 d4 ((b56.sm b3 (by decide)).sm d3 (by decide)) (fun i hi => (b4 i hi).sm d3 (by decide))
    have g : xGo 281 2 [some (.ref 39), some (.int (jI (m : Int))), some (.int (jI (n : Int))), some (.int (jI 32))] [] w1 (none, w4) :=
      Z_281_2 a1 ⟨s32, fun _ => ⟨s32, fun _ => ⟨_, b1, b2, s32, _, d1, d2, g1⟩, fun q => by omega⟩, fun q => by omega⟩
    have sm : xsame [56, 57, 58, 59] w w4 := (a2.mono (by decide)).trans ((b3.mono (by decide)).trans ((d3.mono (by decide)).trans (g3.mono (by decide))))
    exact ⟨w4, Z_281 h.1 (a4 _ g), h.same1 sm g2, sm, g4⟩
/-! how many digits -/
theorem d10_z : ∀ k : Nat, d10 0 k = 0
  | 0 => rfl
  | k + 1 => by
    show d10 0 k / 10 = 0
    rw [d10_z k]; rfl
theorem d10_keep {x : Int} {c : Nat} (h : d10 x c = 0) : ∀ d : Nat, d10 x (c + d) = 0
  | 0 => h
  | d + 1 => by
    show d10 x (c + d) / 10 = 0
    rw [d10_keep h d]; rfl
theorem L_285b {w : xW} (hC : CS w) {V : Int} {k : Nat} (hk : k < 28) (Hz : ∀ j, k < j → j < 28 → dq V j % 1000000000 = 0) (Ht : k = 0 ∨ dq V k % 1000000000 ≠ 0) : ∀ (f c : Nat), c + f = 9 → (∀ i, i < c → 0 < d10 (dq V k % 1000000000) i) →
    xGo 285 33 [some (.ref 39), some (.int (jI (k : Int))), some (.int (jI (c : Int))), some (.long (jL (d10 (dq V k % 1000000000) c))), none] [] w (some (.int (jI ((sz V : Nat) : Int))), w) := by
  have lb := lm_b V k
  have fin : ∀ c : Nat, c ≤ 9 → d10 (dq V k % 1000000000) c = 0 → (∀ i, i < c → 0 < d10 (dq V k % 1000000000) i) → sz V = 9 * k + (if c = 0 then 1 else c) := by
    intro c c9 z H
    have cz : (if c = 0 then 1 else c) ≤ 9 ∧ 1 ≤ (if c = 0 then 1 else c) ∧ c ≤ (if c = 0 then 1 else c) := by split <;> omega
    refine szF_eq (by omega) ?_ 252 (by omega) (fun p a b => ?_)
    · by_cases c0 : c = 0
      · rw [if_pos c0]
        left
        rw [c0] at z
        have z2 : dq V k % 1000000000 = 0 := z
        rcases Ht with r | r
        · omega
        · exact absurd z2 r
      · rw [if_neg c0]
        right
        have e1 : (9 * k + c - 1) / 9 = k := by omega
        have e2 : (9 * k + c - 1) % 9 = c - 1 := by omega
        unfold dgt
        rw [e1, e2]
        have p1 := H (c - 1) (by omega)
        have p2 : d10 (dq V k % 1000000000) (c - 1) / 10 = 0 := by
          have : d10 (dq V k % 1000000000) ((c - 1) + 1) = 0 := by rw [show c - 1 + 1 = c by omega]; exact z
          exact this
        omega
    · unfold dgt
      by_cases pk : p / 9 = k
      · rw [pk]
        have e := d10_keep z (p % 9 - c)
        rw [show c + (p % 9 - c) = p % 9 by omega] at e
        rw [e]; rfl
      · rw [Hz (p / 9) (by omega) (by omega), d10_z]; rfl
  intro f
  induction f with
  | zero =>
    intro c hc H
    have b := d10_b lb.1 (by omega) c
    have z : d10 (dq V k % 1000000000) c = 0 := by
      have : c = 9 := by omega
      subst this
      show dq V k % 1000000000 / 10 / 10 / 10 / 10 / 10 / 10 / 10 / 10 / 10 = 0
      omega
    have e := fin c (by omega) z H
    rw [if_neg (by omega)] at e
    refine Z_285_33 hC ⟨⟨by omega, by omega⟩, fun _ => ⟨s32, fun _ => ?_, fun q => by omega⟩, fun q => by omega⟩
    rw [e, show ((9 * k + c : Nat) : Int) = 9 * (k : Int) + (c : Int) by omega]
  | succ f ih =>
    intro c hc H
    have b := d10_b lb.1 (by omega) c
    refine Z_285_33 hC ⟨⟨by omega, by omega⟩, fun q => ⟨s32, fun q2 => ?_, fun q2 => ?_⟩, fun q => ⟨_, tdN b.1, ih (c + 1) (by omega) (fun i hi => ?_)⟩⟩
    · have e := fin c (by omega) (by omega) H
      rw [if_neg (by omega)] at e
      rw [e, show ((9 * k + c : Nat) : Int) = 9 * (k : Int) + (c : Int) by omega]
    · have e := fin c (by omega) (by omega) H
      rw [if_pos (by omega)] at e
      rw [e, show ((9 * k + 1 : Nat) : Int) = 9 * (k : Int) + 1 by omega]
    · by_cases z : i = c
      · rw [z]; exact q
      · exact H i (by omega)
theorem L_285a {w : xW} (hC : CS w) {V : Int} (H : bn w 56 32 V) (Hv : ∀ j, 28 ≤ j → j < 32 → dq V j % 1000000000 = 0) : ∀ (k : Nat), k < 32 → (∀ j, k < j → j < 32 → dq V j % 1000000000 = 0) →
    xGo 285 3 [some (.ref 39), some (.int (jI (k : Int))), none, none, none] [] w (some (.int (jI ((sz V : Nat) : Int))), w) := by
  intro k
  induction k with
  | zero =>
    intro hk Hz
    have l := L_285b hC (V := V) (k := 0) (by decide) (fun j a b => Hz j a (by omega)) (Or.inl rfl) 9 0 rfl (fun i hi => by omega)
    exact Z_285_3 hC ⟨s32, fun _ => ⟨by decide, _, H 0 (by decide), l⟩, fun q => by omega⟩
  | succ k ih =>
    intro hk Hz
    have lb := lm_b V (k + 1)
    by_cases q : dq V (k + 1) % 1000000000 = 0
    · exact Z_285_3 hC ⟨s32, fun z => by omega, fun _ => ⟨by omega, _, H (k + 1) hk, ⟨by omega, by omega⟩, fun z => absurd q z, fun _ => by
        rw [show (((k + 1 : Nat) : Int) - 1) = (k : Int) by omega]
        exact ih (by omega) (fun j a b => by
          by_cases z : j = k + 1
          · rw [z]; exact q
          · exact Hz j (by omega) b)⟩⟩
    · have k28 : k + 1 < 28 := by
        by_cases z : k + 1 < 28
        · exact z
        · exact absurd (Hv (k + 1) (by omega) hk) q
      have l := L_285b hC (V := V) (k := k + 1) k28 (fun j a b => Hz j a (by omega)) (Or.inr q) 9 0 rfl (fun i hi => by omega)
      exact Z_285_3 hC ⟨s32, fun z => by omega, fun _ => ⟨by omega, _, H (k + 1) hk, ⟨by omega, by omega⟩, fun _ => ⟨by omega, _, H (k + 1) hk, l⟩, fun z => absurd z q⟩⟩
theorem dq_ge {V : Int} {i : Nat} (h : dq V i = 0) : ∀ d : Nat, dq V (i + d) = 0
  | 0 => h
  | d + 1 => by
    show dq V (i + d) / 1000000000 = 0
    rw [dq_ge h d]; rfl
theorem C_digitsOf {w : xW} (hC : CS w) {m n : Nat} (m24 : m ≤ 24) (n9 : n ≤ 1000000000) (H : bn w 56 32 (pwS m n)) : xCall 285 [.ref 39] w (some (.int (jI ((sz (pwS m n) : Nat) : Int))), w) := by
  have pb := pw_lt (m := m) (n := n) m24 n9
  have k25 : (1000000000 : Int) ^ 25 < 1000000000 ^ 28 := by decide +kernel
  have z : dq (pwS m n) 28 = 0 := dq_0 28 _ pb.1 (by omega)
  have Hv : ∀ j, 28 ≤ j → j < 32 → dq (pwS m n) j % 1000000000 = 0 := fun j a _ => by
    have e := dq_ge z (j - 28)
    rw [show 28 + (j - 28) = j by omega] at e
    rw [e]; rfl
  exact Z_285 hC (L_285a hC H Hv 31 (by decide) (fun j a b => by omega))
theorem m_digits {m n : Int} (hm : in32 m) (hn : in32 n) : mAns E t ws me E t ws me 279 [.int (jI m), .int (jI n)] (.int (jI (dgS m n))) := by
  intro w h0
  have h := h0.p0 (v := jI 0)
  have s0 : xsame mAll w (pF w 39 0 (.int (jI 0))) := sm_pF (by decide)
  by_cases v : smP m n
  · obtain ⟨w1, a1, a2, a3, a4⟩ := C_laysFull h (m := m.toNat) (n := n.toNat) (by omega) (by omega)
    have dg := C_digitsOf a2.1 (by omega) (by omega) a4
    rw [Int.toNat_of_nonneg v.1, Int.toNat_of_nonneg v.2.2.1] at a1
    rw [show dgS m n = _ from if_pos v]
    refine ⟨w1, Z_279 h0.1 (fun w3 e _ => ?_), a2, s0.trans (a3.mono (by decide))⟩
    subst e
    exact ⟨_, _, _, C_misSum hm hn _, h.1, fun _ => ⟨_, a1, a2.1, _, _, dg, a2.1, rfl⟩, fun q => absurd v q⟩
  · rw [show dgS m n = -1 from if_neg v]
    refine ⟨_, Z_279 h0.1 (fun w3 e _ => ?_), h, s0⟩
    subst e
    exact ⟨_, _, _, C_misSum hm hn _, h.1, fun q => absurd q v, fun _ => rfl⟩
theorem L_286 {w : xW} (hC : CS w) {m n i : Int} {p : Nat} {x : Int} (hp : p < 252) (x0 : 0 ≤ x) (x1 : x ≤ 1000000000) : ∀ (k j : Nat), j + k = p % 9 →
    xGo 286 58 [some (.ref 39), some (.int (jI m)), some (.int (jI n)), some (.int (jI i)), some (.int (jI (p : Int))), some (.long (jL (d10 x j))), none, some (.int (jI (j : Int)))] [] w (some (.int (jI (d10 x (p % 9) % 10))), w) := by
  intro k
  induction k with
  | zero =>
    intro j hj
    have b := d10_b x0 x1 j
    rw [show p % 9 = j by omega]
    exact Z_286_58 hC ⟨s32, _, tmN (by omega), s32, s32, fun _ => ⟨⟨by omega, by omega⟩, _, tmN b.1, rfl⟩, fun q => by omega⟩
  | succ k ih =>
    intro j hj
    have b := d10_b x0 x1 j
    exact Z_286_58 hC ⟨s32, _, tmN (by omega), s32, s32, fun q => by omega, fun _ => ⟨⟨by omega, by omega⟩, _, tdN b.1, ih (j + 1) (by omega)⟩⟩
theorem m_digit {m n i : Int} (hm : in32 m) (hn : in32 n) (hi : in32 i) : mAns E t ws me E t ws me 286 [.int (jI m), .int (jI n), .int (jI i)] (.int (jI (dtS m n i))) := by
  intro w h0
  have h := h0.p0 (v := jI 0)
  have s0 : xsame mAll w (pF w 39 0 (.int (jI 0))) := sm_pF (by decide)
  by_cases v : smP m n ∧ 0 ≤ i
  · obtain ⟨w1, a1, a2, a3, a4⟩ := C_laysFull h (m := m.toNat) (n := n.toNat) (by omega) (by omega)
    have dg := C_digitsOf a2.1 (by omega) (by omega) a4
    rw [Int.toNat_of_nonneg v.1.1, Int.toNat_of_nonneg v.1.2.2.1] at a1
    have sb : 1 ≤ sz (pwS m.toNat n.toNat) ∧ sz (pwS m.toNat n.toNat) ≤ 252 := szF_b _ 252 (by decide)
    have i2 := hi.2
    rw [show dtS m n i = _ from if_pos v]
    refine ⟨w1, Z_286 h0.1 (fun w3 e _ => ?_), a2, s0.trans (a3.mono (by decide))⟩
    subst e
    refine ⟨_, _, _, C_misSum hm hn _, h.1, fun y => absurd v.1 y, fun _ => ⟨hi, fun _ => ⟨_, a1, a2.1, _, _, dg, a2.1, ⟨by omega, by omega⟩, fun q => ?_, fun q => ?_⟩, fun y => by omega⟩⟩
    · rw [if_neg (by omega)]
      have pe : ((sz (pwS m.toNat n.toNat) - 1 - i.toNat : Nat) : Int) = ((sz (pwS m.toNat n.toNat) : Nat) : Int) - 1 - i := by omega
      have p252 : sz (pwS m.toNat n.toNat) - 1 - i.toNat < 252 := by omega
      revert pe p252
      generalize sz (pwS m.toNat n.toNat) - 1 - i.toNat = p
      intro pe p252
      rw [← pe]
      have b := lm_b (pwS m.toNat n.toNat) (p / 9)
      have l := L_286 a2.1 (m := m) (n := n) (i := i) p252 b.1 (by omega) (p % 9) 0 (by omega)
      exact ⟨((p / 9 : Nat) : Int), by rw [tdN (by omega)]; omega, by omega, _, (by rw [Int.toNat_natCast]; exact a4 (p / 9) (by omega)), l⟩
    · rw [if_pos (by omega)]
  · rw [show dtS m n i = -1 from if_neg v]
    refine ⟨_, Z_286 h0.1 (fun w3 e _ => ?_), h, s0⟩
    subst e
    exact ⟨_, _, _, C_misSum hm hn _, h.1, fun _ => rfl, fun q1 => ⟨hi, fun q2 => absurd ⟨q1, q2⟩ v, fun _ => rfl⟩⟩
end D0
