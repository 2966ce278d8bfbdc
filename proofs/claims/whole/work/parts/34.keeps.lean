/-! the model's memo, and the arms of it -/
section KEEPS
variable {c : Nat} {E : eT} {t : Int} {ws : Nat → Int} {me : memT} {w : xW}
theorem mem3m (hC : CS w) {i : Nat} (hi : i < 21) (n p v : Int) : rI (pI (pI (pI w 47 (3 * i) (jI n)) 47 (3 * i + 1) (jI p)) 47 (3 * i + 2) (jI v)) 47 (3 * i) n ∧ rI (pI (pI (pI w 47 (3 * i) (jI n)) 47 (3 * i + 1) (jI p)) 47 (3 * i + 2) (jI v)) 47 (3 * i + 1) p ∧ rI (pI (pI (pI w 47 (3 * i) (jI n)) 47 (3 * i + 1) (jI p)) 47 (3 * i + 2) (jI v)) 47 (3 * i + 2) v ∧ xsame [47] w (pI (pI (pI w 47 (3 * i) (jI n)) 47 (3 * i + 1) (jI p)) 47 (3 * i + 2) (jI v)) ∧ ∀ j a, j ≠ 3 * i → j ≠ 3 * i + 1 → j ≠ 3 * i + 2 → rI w 47 j a → rI (pI (pI (pI w 47 (3 * i) (jI n)) 47 (3 * i + 1) (jI p)) 47 (3 * i + 2) (jI v)) 47 j a := by
  have C1 : CS (pI w 47 (3 * i) (jI n)) := hC.putI
  have C2 : CS (pI (pI w 47 (3 * i) (jI n)) 47 (3 * i + 1) (jI p)) := C1.putI
  refine ⟨((((kl_47 hC).has (by decide) (by omega)).put).put (by omega)).put (by omega), (((kl_47 C1).has (by decide) (by omega)).put).put (by omega), ((kl_47 C2).has (by decide) (by omega)).put, ?_, fun j a h1 h2 h3 h4 => ((h4.put h1).put h2).put h3⟩
  exact ((sm_pI (by decide)).trans (sm_pI (by decide))).trans (sm_pI (by decide))
theorem L_keeps {w0 : xW} {z1 z2 z3 z4 : Int} (h0 : ∀ j, j < 60 → ∃ z, rI w0 47 j z) : ∀ (k i : Nat) (wi : xW), i + k = 60 → 3 ≤ i → CS wi → xsame [47] w0 wi → (∀ j z, rI w0 47 j z → (3 ≤ j → j < i → rI wi 47 (j - 3) z) ∧ (i ≤ j + 3 → rI wi 47 j z)) →
    ∃ wf, CS wf ∧ xsame [47] w0 wf ∧ (∀ j z, rI w0 47 j z → 3 ≤ j → j < 60 → rI wf 47 (j - 3) z) ∧ ∀ r, xGo 229 25 [some (.ref 39), some (.int (jI z1)), some (.int (jI z2)), some (.int (jI z3)), some (.int (jI z4)), some (.int (jI (60 : Int)))] [] wf r → xGo 229 25 [some (.ref 39), some (.int (jI z1)), some (.int (jI z2)), some (.int (jI z3)), some (.int (jI z4)), some (.int (jI (i : Int)))] [] wi r := by
  intro k
  induction k with
  | zero =>
    intro i wi hi h3 hC hs hI
    have e : i = 60 := by omega
    subst e
    exact ⟨wi, hC, hs, fun j z h a b => (hI j z h).1 a b, fun r h => h⟩
  | succ k ih =>
    intro i wi hi h3 hC hs hI
    obtain ⟨z, hz⟩ := h0 i (by omega)
    have hv := (hI i z hz).2 (by omega)
    obtain ⟨wf, a1, a2, a3, a4⟩ := ih (i + 1) (pI wi 47 (i - 3) (jI z)) (by omega) (by omega) hC.putI (hs.trans (sm_pI (by decide))) (fun j y hy => by
      refine ⟨fun b1 b2 => ?_, fun b1 => ?_⟩
      · by_cases e : j = i
        · subst e
          have : y = z ∨ rI (pI wi 47 (j - 3) (jI z)) 47 (j - 3) y := by
            right
            obtain ⟨n, f, q1, q2, q3, q4⟩ := hv
            obtain ⟨n', f', q1', q2', q3', q4'⟩ := (hI j y hy).2 (by omega)
            rw [q1] at q1'
            have e2 := aI_inj (Option.some.inj q1')
            rw [pI_of q1]
            refine ⟨n, _, set_get q1, q2, by omega, ?_⟩
            rw [upd_eq, ← q4, e2.2, q4']
          rcases this with rfl | h
          · exact hasI.put (by obtain ⟨n, f, q1, q2, q3, q4⟩ := hv; exact ⟨n, f, q1, q2, by omega⟩)
          · exact h
        · exact ((hI j y hy).1 b1 (by omega)).put (by omega)
      · exact ((hI j y hy).2 (by omega)).put (by omega))
    refine ⟨wf, a1, a2, a3, fun r hr => ?_⟩
    refine Z_229_25 hC ⟨s32, fun q => by omega, fun _ => ⟨by omega, z, by rw [Int.toNat_natCast]; exact hv, by omega, fun w27 e27 _ => ?_⟩⟩
    subst e27
    rw [show ((i : Int) - 3).toNat = i - 3 by omega]
    exact a4 r hr
theorem C_keeps (h : mst E t ws me w) (ok : okS c E t ws me) {n p v : Int} (hn : in32 n) (hp : in32 p) : ∃ w', xCall 229 [.ref 39, .int (jI n), .int (jI p), .int (jI v)] w (none, w') ∧ mst E t ws (memR me n p v) w' ∧ xsame [39, 47] w w' := by
  have hl := ok.2.2.2.2.2.1
  have ht := ok.2.2.1
  have hle := mpl_le n p me
  have hC := h.1
  have pl := C_memoOf h ok hn hp
  by_cases hA : mpl n p me < me.length
  · obtain ⟨m1, m2, m3, ms, mo⟩ := mem3m hC (i := mpl n p me) (by omega) n p v
    rw [if_pos hA] at pl
    refine ⟨_, Z_229 hC ⟨_, _, pl, hC, s32, fun _ => ⟨by omega, fun w8 e8 _ => ⟨by omega, fun w12 e12 _ => ⟨by omega, fun w16 e16 _ => ?_⟩⟩⟩, fun q => by omega⟩, h.mem ht (ms.mono (by decide)) hC.putI.putI.putI (h.top.sm ms (by decide)) (h.pm.sm ms (by decide)) ?_ ?_, ms.mono (by decide)⟩
    · rw [e16, e12, e8, show (3 * ((mpl n p me : Nat) : Int)).toNat = 3 * mpl n p me by omega, show (3 * ((mpl n p me : Nat) : Int) + 1).toNat = 3 * mpl n p me + 1 by omega, show (3 * ((mpl n p me : Nat) : Int) + 2).toNat = 3 * mpl n p me + 2 by omega]
    · unfold memR
      rw [if_pos hA, List.length_set]
      exact h.mz.sm ms (by decide)
    · intro k q hq
      unfold memR at hq
      rw [if_pos hA, List.getElem?_set] at hq
      by_cases e : mpl n p me = k
      · subst e
        rw [if_pos rfl, if_pos hA] at hq
        have := Option.some.inj hq
        subst this
        exact ⟨m1, m2, m3⟩
      · rw [if_neg e] at hq
        have m := h.mm hl hq
        exact ⟨mo _ _ (by omega) (by omega) (by omega) m.1, mo _ _ (by omega) (by omega) (by omega) m.2.1, mo _ _ (by omega) (by omega) (by omega) m.2.2⟩
  · rw [if_neg hA] at pl
    by_cases hB : me.length = 20
    · have hz := h.mz
      rw [hB] at hz
      have h0 : ∀ j, j < 60 → ∃ z, rI w 47 j z := by
        intro j hj
        have hk : j / 3 < me.length := by omega
        have hq : me[j / 3]? = some me[j / 3] := List.getElem?_eq_getElem hk
        have m := h.mm hl hq
        have e : j = 3 * (j / 3) ∨ j = 3 * (j / 3) + 1 ∨ j = 3 * (j / 3) + 2 := by omega
        rcases e with e | e | e
        · rw [e]; exact ⟨_, m.1⟩
        · rw [e]; exact ⟨_, m.2.1⟩
        · rw [e]; exact ⟨_, m.2.2⟩
      obtain ⟨wf, f1, f2, f3, f4⟩ := L_keeps (z1 := n) (z2 := p) (z3 := v) (z4 := -1) h0 57 3 w (by omega) (by omega) hC xsame.rf (fun j z hz => ⟨fun a b => by omega, fun _ => hz⟩)
      have Ca : CS (pF wf 39 13 (.int (jI 19))) := ks_39_13 f1
      have za : fI (pF wf 39 13 (.int (jI 19))) 39 12 13 19 := (kf_39_13 f1).putI
      have Cb : CS (pF (pF wf 39 13 (.int (jI 19))) 39 13 (.int (jI (19 + 1)))) := ks_39_13 Ca
      have zb : fI (pF (pF wf 39 13 (.int (jI 19))) 39 13 (.int (jI (19 + 1)))) 39 12 13 (19 + 1) := (kf_39_13 Ca).putI
      have tb : fI (pF (pF wf 39 13 (.int (jI 19))) 39 13 (.int (jI (19 + 1)))) 39 12 4 t := ((h.top.sm f2 (by decide)).put (by decide)).put (by decide)
      have pb : fI (pF (pF wf 39 13 (.int (jI 19))) 39 13 (.int (jI (19 + 1)))) 39 12 7 46 := ((h.pm.sm f2 (by decide)).put (by decide)).put (by decide)
      have sb : xsame [39] wf (pF (pF wf 39 13 (.int (jI 19))) 39 13 (.int (jI (19 + 1)))) := (sm_pF (by decide)).trans (sm_pF (by decide))
      obtain ⟨m1, m2, m3, ms, mo⟩ := mem3m Cb (i := 19) (by decide) n p v
      have sT : xsame [39, 47] w (pI (pI (pI (pF (pF wf 39 13 (.int (jI 19))) 39 13 (.int (jI (19 + 1)))) 47 (3 * 19) (jI n)) 47 (3 * 19 + 1) (jI p)) 47 (3 * 19 + 2) (jI v)) := ((f2.mono (by decide)).trans (sb.mono (by decide))).trans (ms.mono (by decide))
      refine ⟨pI (pI (pI (pF (pF wf 39 13 (.int (jI 19))) 39 13 (.int (jI (19 + 1)))) 47 (3 * 19) (jI n)) 47 (3 * 19 + 1) (jI p)) 47 (3 * 19 + 2) (jI v), Z_229 hC ⟨_, _, pl, hC, s32, fun q => by omega, fun _ => ⟨_, hz, s32, fun q => absurd rfl q, fun _ => ?_⟩⟩, h.mem ht sT Cb.putI.putI.putI (tb.sm ms (by decide)) (pb.sm ms (by decide)) ?_ ?_, sT⟩
      · refine f4 _ (Z_229_25 f1 ⟨s32, fun _ w3 e3 _ => ?_, fun q => by omega⟩)
        subst e3
        refine ⟨_, za, fun w8 e8 _ => ?_⟩
        subst e8
        refine ⟨by omega, fun w12 e12 _ => ⟨by omega, fun w16 e16 _ => ⟨by omega, fun w20 e20 _ => ?_⟩⟩⟩
        rw [e20, e16, e12]
        rfl
      · unfold memR
        rw [if_neg hA, if_pos hB]
        have : (me.drop 1 ++ [(n, p, v)]).length = 20 := by simp [hB]
        rw [this]
        exact zb.sm ms (by decide)
      · intro k q hq
        unfold memR at hq
        rw [if_neg hA, if_pos hB] at hq
        by_cases hk : k < 19
        · rw [List.getElem?_append_left (by simp [hB]; exact hk), List.getElem?_drop, Nat.add_comm] at hq
          have m := h.mm hl hq
          have d1 := f3 _ _ m.1 (by omega) (by omega)
          have d2 := f3 _ _ m.2.1 (by omega) (by omega)
          have d3 := f3 _ _ m.2.2 (by omega) (by omega)
          rw [show 3 * (k + 1) - 3 = 3 * k by omega] at d1
          rw [show 3 * (k + 1) + 1 - 3 = 3 * k + 1 by omega] at d2
          rw [show 3 * (k + 1) + 2 - 3 = 3 * k + 2 by omega] at d3
          exact ⟨mo _ _ (by omega) (by omega) (by omega) (d1.sm sb (by decide)), mo _ _ (by omega) (by omega) (by omega) (d2.sm sb (by decide)), mo _ _ (by omega) (by omega) (by omega) (d3.sm sb (by decide))⟩
        · have hk2 : k < (me.drop 1 ++ [(n, p, v)]).length := (List.getElem?_eq_some_iff.mp hq).1
          have e : k = 19 := by
            simp [hB] at hk2
            omega
          subst e
          rw [List.getElem?_append_right (by simp [hB])] at hq
          simp [hB] at hq
          subst hq
          exact ⟨m1, m2, m3⟩
    · have C2 : CS (pF w 39 13 (.int (jI ((me.length : Int) + 1)))) := ks_39_13 hC
      have z2 : fI (pF w 39 13 (.int (jI ((me.length : Int) + 1)))) 39 12 13 ((me.length : Int) + 1) := (kf_39_13 hC).putI
      have tb : fI (pF w 39 13 (.int (jI ((me.length : Int) + 1)))) 39 12 4 t := h.top.put (by decide)
      have pb : fI (pF w 39 13 (.int (jI ((me.length : Int) + 1)))) 39 12 7 46 := h.pm.put (by decide)
      have s2 : xsame [39] w (pF w 39 13 (.int (jI ((me.length : Int) + 1)))) := sm_pF (by decide)
      obtain ⟨m1, m2, m3, ms, mo⟩ := mem3m C2 (i := me.length) (by omega) n p v
      have sT := (s2.mono (S' := [39, 47]) (by decide)).trans (ms.mono (by decide))
      refine ⟨_, Z_229 hC ⟨_, _, pl, hC, s32, fun q => by omega, fun _ => ⟨_, h.mz, s32, fun _ w22 e22 _ => ⟨by omega, fun w26 e26 _ => ⟨by omega, fun w30 e30 _ => ⟨by omega, fun w34 e34 _ => ?_⟩⟩⟩, fun q => by omega⟩⟩, h.mem ht sT C2.putI.putI.putI (tb.sm ms (by decide)) (pb.sm ms (by decide)) ?_ ?_, sT⟩
      · rw [e34, e30, e26, e22, show (3 * (me.length : Int)).toNat = 3 * me.length by omega, show (3 * (me.length : Int) + 1).toNat = 3 * me.length + 1 by omega, show (3 * (me.length : Int) + 2).toNat = 3 * me.length + 2 by omega]
      · unfold memR
        rw [if_neg hA, if_neg hB]
        have : (me ++ [(n, p, v)]).length = me.length + 1 := by simp
        rw [this]
        exact z2.sm ms (by decide)
      · intro k q hq
        unfold memR at hq
        rw [if_neg hA, if_neg hB] at hq
        by_cases hk : k < me.length
        · rw [List.getElem?_append_left hk] at hq
          have m := h.mm hl hq
          exact ⟨mo _ _ (by omega) (by omega) (by omega) (m.1.sm s2 (by decide)), mo _ _ (by omega) (by omega) (by omega) (m.2.1.sm s2 (by decide)), mo _ _ (by omega) (by omega) (by omega) (m.2.2.sm s2 (by decide))⟩
        · have hk2 : k < (me ++ [(n, p, v)]).length := (List.getElem?_eq_some_iff.mp hq).1
          have e : k = me.length := by
            simp at hk2
            omega
          subst e
          rw [List.getElem?_append_right (by omega)] at hq
          simp at hq
          subst hq
          exact ⟨m1, m2, m3⟩
/-! residue -/
def reS (E : eT) (t n p : Int) : Int := if (0 ≤ n ∧ n ≤ 38) ∧ isPr p then (if n ≤ t then resS (E n.toNat) p.toNat else -2) else -1
def reM (E : eT) (t : Int) (me : memT) (n p : Int) : memT := if (0 ≤ n ∧ n ≤ 38) ∧ isPr p ∧ n ≤ t ∧ 0 ≤ resS (E n.toNat) p.toNat then memR me n p (resS (E n.toNat) p.toNat) else me
theorem resS_le {e : Int × Int × Int} {p : Nat} (h : 0 < p) : -3 ≤ resS e p ∧ resS e p < p := by
  have := resV_le (e := e) h
  unfold resS
  split <;> omega
theorem c_residue (ok : okS c E t ws me) {n p : Int} (hn : in32 n) (hp : in32 p) : cAns E t ws me E t ws (reM E t me n p) 83 [.int (jI n), .int (jI p)] (.int (jI (reS E t n p))) := by
  intro w h
  have ht1 := ok.2.1
  have ht2 := ok.2.2.1
  by_cases c1 : 0 ≤ n ∧ n ≤ 38
  · by_cases c2 : isPr p
    · by_cases c3 : n ≤ t
      · obtain ⟨q, hq, rfl, h1, h2⟩ := isPr_nat c2
        obtain ⟨m, rfl⟩ := Int.eq_ofNat_of_zero_le c1.1
        have rr := C_residueNow h ok (n := m) (p := q) c3 hq
        have rb := resS_le (e := E m) (p := q) (by omega)
        by_cases c4 : 0 ≤ resS (E m) q
        · obtain ⟨w', k1, k2, k3⟩ := C_remember h ok (v := resS (E m) q) hn hp
          have e1 : reM E t me m q = memR me m q (resS (E m) q) := if_pos ⟨c1, c2, c3, c4⟩
          have e2 : reS E t m q = resS (E m) q := by
            unfold reS
            rw [if_pos ⟨c1, c2⟩, if_pos c3]
            rfl
          rw [e1, e2]
          exact ⟨w', Z_83 h.1 ⟨_, _, _, C_isEntry hn w, h.1, fun q => absurd c1 q, fun _ => ⟨_, _, _, C_isPrime hp h.1.noP, h.1, fun _ => ⟨_, h.top, hn, s32, fun _ => ⟨_, _, rr, h.1, s32, fun q => by omega, fun _ => ⟨_, k1, k2.1, rfl⟩⟩, fun q => by omega⟩, fun q => absurd c2 q⟩⟩, k2, k3.mono (by decide)⟩
        · have e1 : reM E t me m q = me := if_neg (fun z => c4 z.2.2.2)
          have e2 : reS E t m q = resS (E m) q := by
            unfold reS
            rw [if_pos ⟨c1, c2⟩, if_pos c3]
            rfl
          rw [e1, e2]
          exact ⟨w, Z_83 h.1 ⟨_, _, _, C_isEntry hn w, h.1, fun q => absurd c1 q, fun _ => ⟨_, _, _, C_isPrime hp h.1.noP, h.1, fun _ => ⟨_, h.top, hn, s32, fun _ => ⟨_, _, rr, h.1, s32, fun _ => rfl, fun q => absurd q c4⟩, fun q => by omega⟩, fun q => absurd c2 q⟩⟩, h, xsame.rf⟩
      · have e1 : reM E t me n p = me := if_neg (fun z => c3 z.2.2.1)
        rw [e1]
        refine ⟨w, Z_83 h.1 ⟨_, _, _, C_isEntry hn w, h.1, fun q => absurd c1 q, fun _ => ⟨_, _, _, C_isPrime hp h.1.noP, h.1, fun _ => ⟨_, h.top, hn, s32, fun q => absurd q c3, fun _ => ?_⟩, fun q => absurd c2 q⟩⟩, h, xsame.rf⟩
        unfold reS; rw [if_pos ⟨c1, c2⟩, if_neg c3]
    · have e1 : reM E t me n p = me := if_neg (fun z => c2 z.2.1)
      rw [e1]
      refine ⟨w, Z_83 h.1 ⟨_, _, _, C_isEntry hn w, h.1, fun q => absurd c1 q, fun _ => ⟨_, _, _, C_isPrime hp h.1.noP, h.1, fun q => absurd q c2, fun _ => ?_⟩⟩, h, xsame.rf⟩
      unfold reS; rw [if_neg (fun z => c2 z.2)]
  · have e1 : reM E t me n p = me := if_neg (fun z => c1 z.1)
    rw [e1]
    refine ⟨w, Z_83 h.1 ⟨_, _, _, C_isEntry hn w, h.1, fun _ => ?_, fun q => absurd q c1⟩, h, xsame.rf⟩
    unfold reS; rw [if_neg (fun z => c1 z.1)]
theorem m_residue (ok : okS c E t ws me) {n p : Int} (hn : in32 n) (hp : in32 p) : mAns E t ws me E t ws (reM E t me n p) 227 [.int (jI n), .int (jI p)] (.int (jI (reS E t n p))) := by
  intro w0 h0
  have h := h0.p0 (v := jI 0)
  have hs : xsame [39] w0 (pF w0 39 0 (.int (jI 0))) := sm_pF (by decide)
  have ht1 := ok.2.1
  have ht2 := ok.2.2.1
  suffices ∃ w1, (∀ w2, w2 = pF w0 39 0 (.int (jI 0)) → xCall 227 [.ref 39, .int (jI n), .int (jI p)] w0 (some (.int (jI (reS E t n p))), w1)) ∧ mst E t ws (reM E t me n p) w1 ∧ xsame mAll w0 w1 by
    obtain ⟨w1, a, b, c⟩ := this
    exact ⟨w1, a _ rfl, b, c⟩
  revert h hs
  intro h hs
  by_cases c1 : 0 ≤ n ∧ n ≤ 38
  · by_cases c2 : isPr p
    · by_cases c3 : n ≤ t
      · obtain ⟨q, hq, rfl, h1, h2⟩ := isPr_nat c2
        obtain ⟨m, rfl⟩ := Int.eq_ofNat_of_zero_le c1.1
        have rr := C_restOf h ok (n := m) (p := q) c3 hq
        have rb := resS_le (e := E m) (p := q) (by omega)
        by_cases c4 : 0 ≤ resS (E m) q
        · obtain ⟨w', k1, k2, k3⟩ := C_keeps h ok (v := resS (E m) q) hn hp
          have e1 : reM E t me m q = memR me m q (resS (E m) q) := if_pos ⟨c1, c2, c3, c4⟩
          have e2 : reS E t m q = resS (E m) q := by
            unfold reS
            rw [if_pos ⟨c1, c2⟩, if_pos c3]
            rfl
          rw [e1, e2]
          refine ⟨w', fun _ _ => Z_227 h0.1 (fun w2 e _ => ?_), k2, (hs.mono (by decide)).trans (k3.mono (by decide))⟩
          subst e
          exact ⟨_, _, _, C_misEntry hn _, h.1, fun q => absurd c1 q, fun _ => ⟨_, _, _, C_misPrime h hp, h.1, fun _ => ⟨_, h.top, hn, s32, fun _ => ⟨_, _, rr, h.1, s32, fun q => by omega, fun _ => ⟨_, k1, k2.1, rfl⟩⟩, fun q => by omega⟩, fun q => absurd c2 q⟩⟩
        · have e1 : reM E t me m q = me := if_neg (fun z => c4 z.2.2.2)
          have e2 : reS E t m q = resS (E m) q := by
            unfold reS
            rw [if_pos ⟨c1, c2⟩, if_pos c3]
            rfl
          rw [e1, e2]
          refine ⟨_, fun _ _ => Z_227 h0.1 (fun w2 e _ => ?_), h, hs.mono (by decide)⟩
          subst e
          exact ⟨_, _, _, C_misEntry hn _, h.1, fun q => absurd c1 q, fun _ => ⟨_, _, _, C_misPrime h hp, h.1, fun _ => ⟨_, h.top, hn, s32, fun _ => ⟨_, _, rr, h.1, s32, fun _ => rfl, fun q => absurd q c4⟩, fun q => by omega⟩, fun q => absurd c2 q⟩⟩
      · have e1 : reM E t me n p = me := if_neg (fun z => c3 z.2.2.1)
        rw [e1]
        refine ⟨_, fun _ _ => Z_227 h0.1 (fun w2 e _ => ?_), h, hs.mono (by decide)⟩
        subst e
        refine ⟨_, _, _, C_misEntry hn _, h.1, fun q => absurd c1 q, fun _ => ⟨_, _, _, C_misPrime h hp, h.1, fun _ => ⟨_, h.top, hn, s32, fun q => absurd q c3, fun _ => ?_⟩, fun q => absurd c2 q⟩⟩
        unfold reS; rw [if_pos ⟨c1, c2⟩, if_neg c3]
    · have e1 : reM E t me n p = me := if_neg (fun z => c2 z.2.1)
      rw [e1]
      refine ⟨_, fun _ _ => Z_227 h0.1 (fun w2 e _ => ?_), h, hs.mono (by decide)⟩
      subst e
      refine ⟨_, _, _, C_misEntry hn _, h.1, fun q => absurd c1 q, fun _ => ⟨_, _, _, C_misPrime h hp, h.1, fun q => absurd q c2, fun _ => ?_⟩⟩
      unfold reS; rw [if_neg (fun z => c2 z.2)]
  · have e1 : reM E t me n p = me := if_neg (fun z => c1 z.1)
    rw [e1]
    refine ⟨_, fun _ _ => Z_227 h0.1 (fun w2 e _ => ?_), h, hs.mono (by decide)⟩
    subst e
    refine ⟨_, _, _, C_misEntry hn _, h.1, fun _ => ?_, fun q => absurd q c1⟩
    unfold reS; rw [if_neg (fun z => c1 z.1)]
end KEEPS
