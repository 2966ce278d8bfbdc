/-! the calls trial and culprit -/
theorem cpy0 {f g : Nat → Int64} {j : Nat} (hj : j < 39) : va_cpy f g 0 0 39 j = f j := by
  unfold va_cpy
  rw [if_pos (by omega)]
  congr 1
  omega
theorem C_takeOver {w : xW} (hC : CS w) {a b : Nat} (hab : (a = 17 ∧ b = 12) ∨ (a = 12 ∧ b = 17)) (ha : w[a]? = some (eCell a)) (hb : w[b]? = some (eCell b)) (la1 : lenL w (a + 1) 39) (la2 : lenL w (a + 2) 39) (la3 : lenL w (a + 3) 39) (lb1 : lenL w (b + 1) 39) (lb2 : lenL w (b + 2) 39) (lb3 : lenL w (b + 3) 39) :
    ∃ w', xCall 111 [.ref a, .ref b] w (none, w') ∧ CS w' ∧ xsame [a + 1, a + 2, a + 3] w w' ∧ ∀ j z, j < 39 → (rL w (b + 1) j z → rL w' (a + 1) j z) ∧ (rL w (b + 2) j z → rL w' (a + 2) j z) ∧ (rL w (b + 3) j z → rL w' (a + 3) j z) := by
  obtain ⟨g1, a1⟩ := la1
  obtain ⟨g2, a2⟩ := la2
  obtain ⟨g3, a3⟩ := la3
  obtain ⟨f1, b1⟩ := lb1
  obtain ⟨f2, b2⟩ := lb2
  obtain ⟨f3, b3⟩ := lb3
  refine ⟨((w.set (a + 1) (aL 39 (va_cpy f1 g1 0 0 39))).set (a + 2) (aL 39 (va_cpy f2 g2 0 0 39))).set (a + 3) (aL 39 (va_cpy f3 g3 0 0 39)), ?_, ?_, ?_, ?_⟩
  · refine E_111 (S_111_0 ⟨_, hb, _, rfl, _, ha, _, rfl, _, _, b1, _, _, a1, by decide, by decide, fun w17 e17 => ?_⟩)
    subst e17
    refine ⟨_, (set_ne (by omega)).trans hb, _, rfl, _, (set_ne (by omega)).trans ha, _, rfl, _, _, (set_ne (by omega)).trans b2, _, _, (set_ne (by omega)).trans a2, by decide, by decide, fun w34 e34 => ?_⟩
    subst e34
    refine ⟨_, (set_ne (by omega)).trans ((set_ne (by omega)).trans hb), _, rfl, _, (set_ne (by omega)).trans ((set_ne (by omega)).trans ha), _, rfl, _, _, (set_ne (by omega)).trans ((set_ne (by omega)).trans b3), _, _, (set_ne (by omega)).trans ((set_ne (by omega)).trans a3), by decide, by decide, fun w51 e51 => ?_⟩
    subst e51
    rfl
  · rcases hab with ⟨rfl, rfl⟩ | ⟨rfl, rfl⟩
    · refine CS.set (CS.set (CS.set hC ?_) ?_) ?_ <;> exact ⟨_, rfl⟩
    · refine CS.set (CS.set (CS.set hC ?_) ?_) ?_ <;> exact ⟨_, rfl⟩
  · exact ((xsame.set (by simp)).trans (xsame.set (by simp))).trans (xsame.set (by simp))
  · intro j z hj
    refine ⟨fun r => ?_, fun r => ?_, fun r => ?_⟩
    · exact rL_of (n := 39) ((set_ne (by omega)).trans ((set_ne (by omega)).trans (set_get a1))) (by decide) hj (by rw [cpy0 hj]; exact r.val b1)
    · exact rL_of (n := 39) ((set_ne (by omega)).trans (set_get ((set_ne (by omega)).trans a2))) (by decide) hj (by rw [cpy0 hj]; exact r.val b2)
    · exact rL_of (n := 39) (set_get ((set_ne (by omega)).trans ((set_ne (by omega)).trans a3))) (by decide) hj (by rw [cpy0 hj]; exact r.val b3)
section T7
variable {c : Nat} {E : eT} {t : Int} {ws : Nat → Int} {me : memT} {w : xW}
def kept (w : xW) (t : Int) (E : eT) : Prop := ∀ k : Nat, (k : Int) ≤ t → rL w 18 k (E k).1 ∧ rL w 19 k (E k).2.1 ∧ rL w 20 k (E k).2.2
theorem kept.sm {w' : xW} {S : List Nat} (h : kept w t E) (hs : xsame S w w') (h1 : 18 ∉ S) (h2 : 19 ∉ S) (h3 : 20 ∉ S) : kept w' t E := fun k hk => ⟨(h k hk).1.sm hs h1, (h k hk).2.1.sm hs h2, (h k hk).2.2.sm hs h3⟩
theorem C_keep (h : cst E t ws me w) (ht : t ≤ 38) : ∃ w', xCall 111 [.ref 17, .ref 12] w (none, w') ∧ cst E t ws me w' ∧ kept w' t E ∧ xsame [18, 19, 20] w w' := by
  obtain ⟨w', a1, a2, a3, a4⟩ := C_takeOver h.1 (Or.inl ⟨rfl, rfl⟩) h.1.e17 h.1.e12 (kl_18 h.1) (kl_19 h.1) (kl_20 h.1) (kl_13 h.1) (kl_14 h.1) (kl_15 h.1)
  refine ⟨w', a1, h.same a3 (by decide) a2, fun k hk => ?_, a3⟩
  obtain ⟨x, y, z⟩ := h.nw ht hk
  exact ⟨(a4 k _ (by omega)).1 x, (a4 k _ (by omega)).2.1 y, (a4 k _ (by omega)).2.2 z⟩
theorem C_unkeep {E' : eT} (h : cst E' t ws me w) (ht : t ≤ 38) (hl : me.length ≤ 20) (hk : kept w t E) : ∃ w', xCall 111 [.ref 12, .ref 17] w (none, w') ∧ cst E t ws me w' ∧ kept w' t E ∧ xsame [13, 14, 15] w w' := by
  obtain ⟨w', a1, a2, a3, a4⟩ := C_takeOver h.1 (Or.inr ⟨rfl, rfl⟩) h.1.e12 h.1.e17 (kl_13 h.1) (kl_14 h.1) (kl_15 h.1) (kl_18 h.1) (kl_19 h.1) (kl_20 h.1)
  refine ⟨w', a1, ?_, hk.sm a3 (by decide) (by decide) (by decide), a3⟩
  refine h.upd ht hl (a3.mono (by decide)) a2 (h.top.sm a3 (by decide)) (fun k q => ?_) (fun k q => (h.wy ht q).sm a3 (by decide))
  obtain ⟨x, y, z⟩ := hk k q
  exact ⟨(a4 k _ (by omega)).1 x, (a4 k _ (by omega)).2.1 y, (a4 k _ (by omega)).2.2 z⟩
/-! draws -/
def nxD (x : Int) : Int := (x * 1103515245 + 12345) % 2147483648
theorem nxD_b (x : Int) : 0 ≤ nxD x ∧ nxD x < 2147483648 := by unfold nxD; omega
theorem nx_and {x : Int} (h0 : 0 ≤ x) (h1 : x < 2147483648) : jL (x * 1103515245 + 12345) &&& jL 2147483647 = jL (nxD x) := by
  obtain ⟨n, rfl⟩ := Int.eq_ofNat_of_zero_le h0
  have a := jL_andk (n := n * 1103515245 + 12345) (k := 31) (by omega) (by decide)
  rw [show (2 : Nat) ^ 31 = 2147483648 from rfl] at a
  rw [show ((n * 1103515245 + 12345 : Nat) : Int) = (n : Int) * 1103515245 + 12345 by omega, show (((n * 1103515245 + 12345) % 2147483648 : Nat) : Int) = nxD n by unfold nxD; omega] at a
  exact a
theorem nx_shr {x : Int} (h0 : 0 ≤ x) (h1 : x < 2147483648) : jL x >>> ((jI 16).toInt64 &&& 63) = jL (x / 65536) := by
  obtain ⟨n, rfl⟩ := Int.eq_ofNat_of_zero_le h0
  have a := jL_shr (n := n) (i := 16) (by omega) (by decide)
  rw [show (2 : Nat) ^ 16 = 65536 from rfl] at a
  rw [show ((n / 65536 : Nat) : Int) = (n : Int) / 65536 by omega] at a
  exact a
def drN (t x : Int) : Int := nxD x / 65536 % (t + 1)
def drV (x : Int) : Int := if nxD (nxD (nxD x)) / 65536 % 2 = 1 then -(nxD (nxD x) / 65536 % 9 + 1) else nxD (nxD x) / 65536 % 9 + 1
def drX (x : Int) : Nat → Int
  | 0 => x
  | k + 1 => nxD (nxD (nxD (drX x k)))
def drE (t x : Int) (E : eT) : Nat → eT
  | 0 => E
  | k + 1 => updE (drE t x E k) (drN t (drX x k)).toNat (spE (drE t x E k (drN t (drX x k)).toNat) (drV (drX x k)))
theorem drN_b {t x : Int} (h : 0 ≤ t) : 0 ≤ drN t x ∧ drN t x ≤ t := by
  have a := Int.emod_nonneg (nxD x / 65536) (show t + 1 ≠ 0 by omega)
  have b := Int.emod_lt_of_pos (nxD x / 65536) (show 0 < t + 1 by omega)
  unfold drN
  exact ⟨a, by omega⟩
theorem drV_b (x : Int) : -9 ≤ drV x ∧ drV x ≤ 9 := by unfold drV; split <;> omega
theorem drX_b {x : Int} (h0 : 0 ≤ x) (h1 : x < 2147483648) : ∀ k, 0 ≤ drX x k ∧ drX x k < 2147483648
  | 0 => ⟨h0, h1⟩
  | k + 1 => nxD_b _
theorem ok_dr (ok : okS c E t ws me) (h : 0 ≤ t) (x : Int) : ∀ k : Nat, c + k ≤ 600 → okS (c + k) (drE t x E k) t ws me
  | 0, _ => ok
  | k + 1, hc => ok_sp (ok_dr ok h x k (by omega)) (by omega) (by have := drN_b (x := drX x k) h; omega) (drV_b _).1 (drV_b _).2
theorem C_nextDraw {w : xW} (hC : CS w) {x : Int} (h0 : 0 ≤ x) (h1 : x < 2147483648) : xCall 114 [.long (jL x)] w (some (.long (jL (nxD x))), w) := Z_114 hC ⟨_, nx_and h0 h1, rfl⟩
theorem L_draws (ok : okS c E t ws me) (t0 : 0 ≤ t) {x n : Int} (x0 : 0 ≤ x) (x1 : x < 2147483648) (n20 : n ≤ 20) (hc : c + 20 ≤ 600) : ∀ (k i : Nat) (w : xW), (i : Int) + k = n → cst (drE t x E i) t ws me w →
    ∃ w', xGo 113 6 [some (.ref 0), some (.int (jI x)), some (.int (jI n)), some (.long (jL (drX x i))), none, some (.int (jI (i : Int))), none, none, none, none] [] w (none, w') ∧ cst (drE t x E n.toNat) t ws me w' ∧ xsame [13, 14, 15, 16] w w' := by
  have ht := ok.2.2.1
  intro k
  induction k with
  | zero =>
    intro i w hi h
    rw [show n.toNat = i by omega]
    exact ⟨w, Z_113_6 h.1 ⟨s32, s32, fun _ => rfl, fun q => by omega⟩, h, xsame.rf⟩
  | succ k ih =>
    intro i w hi h
    have b0 := drX_b x0 x1 i
    have b1 := nxD_b (drX x i)
    have b2 := nxD_b (nxD (drX x i))
    have b3 := nxD_b (nxD (nxD (drX x i)))
    have nb := drN_b (x := drX x i) t0
    have vb := drV_b (drX x i)
    have okI := ok_dr ok t0 x i (by omega)
    obtain ⟨w1, a1, a2, a3⟩ := C_increase h okI nb.1 nb.2 vb.1 vb.2
    obtain ⟨w2, d1, d2, d3⟩ := ih (i + 1) w1 (by omega) a2
    have tm : Int.tmod (nxD (drX x i) / 65536) (t + 1) = drN t (drX x i) := tmN (by omega)
    refine ⟨w2, Z_113_6 h.1 ⟨s32, s32, fun q => by omega, fun _ => ⟨_, _, C_nextDraw h.1 b0.1 b0.2, h.1, _, nx_shr b1.1 b1.2, _, h.top, s32, s64, s64, by omega, _, tm, _, _, C_nextDraw h.1 b1.1 b1.2, h.1, _, nx_shr b2.1 b2.2, s64, _, tmN (by omega), _, _, C_nextDraw h.1 b2.1 b2.2, h.1, _, nx_shr b3.1 b3.2, s64, _, tmN (by omega), s64, fun q => ⟨fun _ => ?_, fun z => absurd rfl z⟩, fun q => ⟨fun z => absurd z (by decide), fun _ => ?_⟩⟩⟩, d2, a3.trans d3⟩
    · have e : drV (drX x i) = nxD (nxD (drX x i)) / 65536 % 9 + 1 := if_neg q
      rw [e] at a1
      exact ⟨_, a1, a2.1, d1⟩
    · have e : drV (drX x i) = -(nxD (nxD (drX x i)) / 65536 % 9 + 1) := if_pos q
      rw [e] at a1
      exact ⟨_, a1, a2.1, d1⟩
/-! trial -/
def trC (E : eT) (s : Nat) : Nat → Int
  | 0 => 0
  | k + 1 => trC E s k + (if E k ≠ rE k ∧ tN E (k : Int) &&& s ≠ 0 then 1 else 0)
def trS (E : eT) (t x n y : Int) : Int := if 0 ≤ x ∧ (1 ≤ n ∧ n ≤ 20) ∧ (0 ≤ y ∧ y ≤ 63) then (if 0 ≤ t then trC (drE t x E n.toNat) y.toNat (t + 1).toNat else -2) else -1
theorem L_trial {E0 : eT} (ok : okS c E t ws me) {x n : Int} {s : Nat} (hs : s < 64) (hl : me.length ≤ 20) : ∀ (k i : Nat) (w : xW), (i : Int) + k = t + 1 → cst E t ws me w → kept w t E0 →
    ∃ w', xGo 112 57 [some (.ref 0), some (.int (jI x)), some (.int (jI n)), some (.int (jI (s : Int))), some (.int (jI (trC E s i))), some (.int (jI (i : Int)))] [] w (some (.int (jI (trC E s (t + 1).toNat))), w') ∧ cst E0 t ws me w' ∧ xsame [3, 13, 14, 15] w w' := by
  have ht1 := ok.2.1
  have ht := ok.2.2.1
  intro k
  induction k with
  | zero =>
    intro i w hi h hk
    obtain ⟨w1, a1, a2, a3, a4⟩ := C_unkeep h ht hl hk
    rw [show (t + 1).toNat = i by omega]
    exact ⟨w1, Z_112_57 h.1 ⟨_, h.top, s32, s32, fun _ => ⟨_, a1, a2.1, rfl⟩, fun q => by omega⟩, a2, a4.mono (by decide)⟩
  | succ k ih =>
    intro i w hi h hk
    have e : trC E s (i + 1) = trC E s i + (if E i ≠ rE i ∧ tN E (i : Int) &&& s ≠ 0 then 1 else 0) := rfl
    by_cases q : E i = rE i
    · obtain ⟨w2, b1, b2, b3⟩ := ih (i + 1) w (by omega) h hk
      rw [e, if_neg (fun z => z.1 q), Int.add_zero] at b1
      exact ⟨w2, Z_112_57 h.1 ⟨_, h.top, s32, s32, fun q => by omega, fun _ => ⟨_, _, _, C_isRight h ok (by omega), h.1, fun _ => b1, fun z => absurd q z⟩⟩, b2, b3⟩
    · obtain ⟨w1, a1, a2, a3⟩ := C_failed h ok (n := (i : Int)) (by omega) (by omega) hs
      obtain ⟨w2, b1, b2, b3⟩ := ih (i + 1) w1 (by omega) a2 (hk.sm a3 (by decide) (by decide) (by decide))
      rw [e] at b1
      refine ⟨w2, Z_112_57 h.1 ⟨_, h.top, s32, s32, fun q => by omega, fun _ => ⟨_, _, _, C_isRight h ok (by omega), h.1, fun z => absurd z q, fun _ => ⟨_, _, a1, a2.1, nd_in hs, fun z => ?_, fun z => ?_⟩⟩⟩, b2, (a3.mono (by decide)).trans b3⟩
      · rw [if_neg (fun y => y.2 (by omega)), Int.add_zero] at b1
        exact b1
      · rw [if_pos ⟨q, fun y => z (by rw [y]; rfl)⟩] at b1
        exact b1
theorem c_trial (ok : okS c E t ws me) (hc : c + 20 ≤ 600) {x n y : Int} (hx : in32 x) (hn : in32 n) (hy : in32 y) : cAns E t ws me E t ws me 112 [.int (jI x), .int (jI n), .int (jI y)] (.int (jI (trS E t x n y))) := by
  intro w h
  have ht1 := ok.2.1
  have ht := ok.2.2.1
  have hl := ok.2.2.2.2.2.1
  have x1 := hx.2
  by_cases a : 0 ≤ x ∧ (1 ≤ n ∧ n ≤ 20) ∧ (0 ≤ y ∧ y ≤ 63)
  · by_cases b : 0 ≤ t
    · obtain ⟨w1, a1, a2, a3, a4⟩ := C_keep h ht
      obtain ⟨w2, b1, b2, b3⟩ := L_draws ok b (x := x) (n := n) a.1 (by omega) a.2.1.2 hc n.toNat 0 w1 (by omega) a2
      obtain ⟨w3, d1, d2, d3⟩ := L_trial (E0 := E) (ok_dr ok b x n.toNat (by omega)) (x := x) (n := n) (s := y.toNat) (by omega) hl (t + 1).toNat 0 w2 (by omega) b2 (a3.sm b3 (by decide) (by decide) (by decide))
      rw [Int.toNat_of_nonneg a.2.2.1] at d1
      refine ⟨w3, Z_112 h.1 ⟨hx, fun q => by omega, fun _ => ⟨hn, fun q => by omega, fun _ => ⟨fun q => by omega, fun _ => ⟨_, _, _, C_areTests hy w, h.1, fun _ => ⟨_, h.top, s32, fun _ => ⟨_, a1, a2.1, _, Z_113 a2.1 ⟨hx, b1⟩, b2.1, ?_⟩, fun q => by omega⟩, fun q => absurd a.2.2 q⟩⟩⟩⟩, d2, (a4.mono (by decide)).trans ((b3.mono (by decide)).trans (d3.mono (by decide)))⟩
      rw [show trS E t x n y = trC (drE t x E n.toNat) y.toNat (t + 1).toNat by unfold trS; rw [if_pos a, if_pos b]]
      exact d1
    · refine ⟨w, Z_112 h.1 ⟨hx, fun q => by omega, fun _ => ⟨hn, fun q => by omega, fun _ => ⟨fun q => by omega, fun _ => ⟨_, _, _, C_areTests hy w, h.1, fun _ => ⟨_, h.top, s32, fun q => absurd q b, fun _ => ?_⟩, fun q => absurd a.2.2 q⟩⟩⟩⟩, h, xsame.rf⟩
      rw [show trS E t x n y = -2 by unfold trS; rw [if_pos a, if_neg b]]
  · have e : trS E t x n y = -1 := if_neg a
    rw [e]
    exact ⟨w, Z_112 h.1 ⟨hx, fun _ => rfl, fun q1 => ⟨hn, fun _ => rfl, fun q2 => ⟨fun _ => rfl, fun q3 => ⟨_, _, _, C_areTests hy w, h.1, fun q4 => absurd ⟨q1, ⟨q2, q3⟩, q4⟩ a, fun _ => rfl⟩⟩⟩⟩, h, xsame.rf⟩
/-! the model's -/
theorem C_mdraw (h : mst E t ws me w) {x z : Int} (h0 : 0 ≤ x) (h1 : x < 2147483648) (hd : fJ w 39 12 14 x) (z0 : 1 ≤ z) (z1 : z ≤ 40) : ∃ w', xCall 247 [.ref 39, .int (jI z)] w (some (.int (jI (nxD x / 65536 % z))), w') ∧ mst E t ws me w' ∧ fJ w' 39 12 14 (nxD x) ∧ xsame [39] w w' := by
  have b := nxD_b x
  have h2 : mst E t ws me (pF w 39 14 (.long (jL (nxD x)))) := h.pu (by decide) (ks_39_14 h.1)
  refine ⟨_, Z_247 h.1 ⟨_, hd, _, nx_and h0 h1, fun w6 e6 _ => ?_⟩, h2, (kf_39_14 h.1).putJ, sm_pF (by decide)⟩
  subst e6
  exact ⟨_, (kf_39_14 h.1).putJ, s64, _, tdN b.1, s32, s64, by omega, _, tmN (by omega), rfl⟩
theorem L_mdraws (ok : okS c E t ws me) (t0 : 0 ≤ t) {x n y : Int} (x0 : 0 ≤ x) (x1 : x < 2147483648) (n20 : n ≤ 20) (hc : c + 20 ≤ 600) : ∀ (k i : Nat) (w : xW), (i : Int) + k = n → mst (drE t x E i) t ws me w → fJ w 39 12 14 (drX x i) →
    ∃ w', mst (drE t x E n.toNat) t ws me w' ∧ xsame [39, 41] w w' ∧ ∀ r, xGo 246 143 [some (.ref 39), some (.int (jI x)), some (.int (jI n)), some (.int (jI y)), some (.int (jI 0)), some (.int (jI 0)), none] [] w' r → xGo 246 80 [some (.ref 39), some (.int (jI x)), some (.int (jI n)), some (.int (jI y)), some (.int (jI (i : Int))), none, none] [] w r := by
  have ht := ok.2.2.1
  intro k
  induction k with
  | zero =>
    intro i w hi h hd
    rw [show n.toNat = i by omega]
    exact ⟨w, h, xsame.rf, fun r g => Z_246_80 h.1 ⟨s32, s32, fun _ => g, fun q => by omega⟩⟩
  | succ k ih =>
    intro i w hi h hd
    have b0 := drX_b x0 x1 i
    have b1 := nxD_b (drX x i)
    have b2 := nxD_b (nxD (drX x i))
    have nb := drN_b (x := drX x i) t0
    have vb := drV_b (drX x i)
    have okI := ok_dr ok t0 x i (by omega)
    obtain ⟨w1, p1, p2, p3, p4⟩ := C_mdraw h (z := t + 1) b0.1 b0.2 hd (by omega) (by omega)
    obtain ⟨w2, q1, q2, q3, q4⟩ := C_mdraw p2 (z := 9) b1.1 b1.2 p3 (by omega) (by omega)
    obtain ⟨w3, r1, r2, r3, r4⟩ := C_mdraw q2 (z := 2) b2.1 b2.2 q3 (by omega) (by omega)
    obtain ⟨w4, a1, a2, a3⟩ := C_mspoils r2 okI nb.1 nb.2 vb.1 vb.2
    obtain ⟨w5, d1, d2, d3⟩ := ih (i + 1) w4 (by omega) a2 (r3.sm a3 (by decide))
    refine ⟨w5, d1, (p4.mono (by decide)).trans ((q4.mono (by decide)).trans ((r4.mono (by decide)).trans ((a3.mono (by decide)).trans d2))), fun r g => Z_246_80 h.1 ⟨s32, s32, fun q => by omega, fun _ => ⟨_, h.top, _, _, p1, p2.1, _, _, q1, q2.1, _, _, r1, r2.1, s32, fun q => ?_, fun q => ?_⟩⟩⟩
    · have e : drV (drX x i) = nxD (nxD (drX x i)) / 65536 % 9 + 1 := if_neg q
      rw [e] at a1
      exact ⟨_, a1, a2.1, d3 r g⟩
    · have e : drV (drX x i) = -(nxD (nxD (drX x i)) / 65536 % 9 + 1) := if_pos q
      rw [e] at a1
      exact ⟨_, a1, a2.1, d3 r g⟩
theorem rL_any {w : xW} {a n i : Nat} (h : lenL w a n) (hn : n ≤ 1000000) (hi : i < n) : ∃ z, rL w a i z := by
  obtain ⟨f, hf⟩ := h
  obtain ⟨z, -, e⟩ := jL_of (f i)
  exact ⟨z, rL_of hf hn hi e⟩
theorem rL_eq {w : xW} {a i : Nat} {y z : Int} (h1 : rL w a i y) (h2 : rL w a i z) : jL y = jL z := by
  obtain ⟨n, f, hf, hn, hi, hv⟩ := h1
  exact hv.symm.trans (h2.val hf)
theorem rL.of_eq {w : xW} {a i : Nat} {y z : Int} (h1 : rL w a i y) (e : jL y = jL z) : rL w a i z := by
  obtain ⟨n, f, hf, hn, hi, hv⟩ := h1
  exact ⟨n, f, hf, hn, hi, hv.trans e⟩
theorem L_246a {x n y : Int} : ∀ (k i : Nat) (w : xW), i + k = 117 → CS w → (∀ j z, j < i → rL w 41 j z → rL w 48 j z) →
    ∃ w', CS w' ∧ xsame [48] w w' ∧ (∀ j z, j < 117 → rL w 41 j z → rL w' 48 j z) ∧ ∀ r, xGo 246 80 [some (.ref 39), some (.int (jI x)), some (.int (jI n)), some (.int (jI y)), some (.int (jI 0)), none, none] [] w' r → xGo 246 50 [some (.ref 39), some (.int (jI x)), some (.int (jI n)), some (.int (jI y)), some (.int (jI (i : Int))), none, none] [] w r := by
  intro k
  induction k with
  | zero =>
    intro i w hi hC H
    exact ⟨w, hC, xsame.rf, fun j z hj => H j z (by omega), fun r g => Z_246_50 hC ⟨s32, fun _ => g, fun q => by omega⟩⟩
  | succ k ih =>
    intro i w hi hC H
    obtain ⟨v, rv⟩ := rL_any (kl_41 hC) (by decide) (show i < 117 by omega)
    have sm : xsame [48] w (pL w 48 i (jL v)) := sm_pL (by decide)
    have pv : rL (pL w 48 i (jL v)) 48 i v := ((kl_48 hC).has (by decide) (show i < 117 by omega)).put
    obtain ⟨w', a1, a2, a3, a4⟩ := ih (i + 1) (pL w 48 i (jL v)) (by omega) hC.putL (fun j z hj r => by
      have r' : rL w 41 j z := by
        obtain ⟨u, ru⟩ := rL_any (kl_41 hC) (by decide) (show j < 117 by omega)
        exact ru.of_eq (rL_eq (ru.sm sm (by decide)) r)
      by_cases q : j = i
      · subst q; exact pv.of_eq (rL_eq rv r')
      · exact (H j z (by omega) r').put q)
    refine ⟨w', a1, sm.trans a2, fun j z hj r => a3 j z hj (r.sm sm (by decide)), fun r g => Z_246_50 hC ⟨s32, fun q => by omega, fun _ => ⟨by omega, _, rv, ⟨by omega, by omega⟩, fun w7 e7 _ => ?_⟩⟩⟩
    rw [e7]
    exact a4 r g
theorem L_246b {x n y u : Int} : ∀ (k i : Nat) (w : xW), i + k = 117 → CS w → (∀ j z, j < i → rL w 48 j z → rL w 41 j z) →
    ∃ w', CS w' ∧ xsame [41] w w' ∧ (∀ j z, j < 117 → rL w 48 j z → rL w' 41 j z) ∧ xGo 246 191 [some (.ref 39), some (.int (jI x)), some (.int (jI n)), some (.int (jI y)), some (.int (jI u)), some (.int (jI (i : Int))), none] [] w (some (.int (jI u)), w') := by
  intro k
  induction k with
  | zero =>
    intro i w hi hC H
    exact ⟨w, hC, xsame.rf, fun j z hj => H j z (by omega), Z_246_191 hC ⟨s32, fun _ => rfl, fun q => by omega⟩⟩
  | succ k ih =>
    intro i w hi hC H
    obtain ⟨v, rv⟩ := rL_any (kl_48 hC) (by decide) (show i < 117 by omega)
    have sm : xsame [41] w (pL w 41 i (jL v)) := sm_pL (by decide)
    have pv : rL (pL w 41 i (jL v)) 41 i v := ((kl_41 hC).has (by decide) (show i < 117 by omega)).put
    obtain ⟨w', a1, a2, a3, a4⟩ := ih (i + 1) (pL w 41 i (jL v)) (by omega) hC.putL (fun j z hj r => by
      have r' : rL w 48 j z := by
        obtain ⟨u, ru⟩ := rL_any (kl_48 hC) (by decide) (show j < 117 by omega)
        exact ru.of_eq (rL_eq (ru.sm sm (by decide)) r)
      by_cases q : j = i
      · subst q; exact pv.of_eq (rL_eq rv r')
      · exact (H j z (by omega) r').put q)
    refine ⟨w', a1, sm.trans a2, fun j z hj r => a3 j z hj (r.sm sm (by decide)), Z_246_191 hC ⟨s32, fun q => by omega, fun _ => ⟨by omega, _, rv, ⟨by omega, by omega⟩, fun w7 e7 _ => ?_⟩⟩⟩
    rw [e7]
    exact a4
theorem L_mtrial (ok : okS c E t ws me) {x n : Int} {s : Nat} (hs : s < 64) : ∀ (k i : Nat) (w : xW), (i : Int) + k = t + 1 → mst E t ws me w →
    ∃ w', mst E t ws me w' ∧ xsame [39] w w' ∧ ∀ r, xGo 246 191 [some (.ref 39), some (.int (jI x)), some (.int (jI n)), some (.int (jI (s : Int))), some (.int (jI (trC E s (t + 1).toNat))), some (.int (jI 0)), none] [] w' r → xGo 246 143 [some (.ref 39), some (.int (jI x)), some (.int (jI n)), some (.int (jI (s : Int))), some (.int (jI (trC E s i))), some (.int (jI (i : Int))), none] [] w r := by
  have ht1 := ok.2.1
  have ht := ok.2.2.1
  intro k
  induction k with
  | zero =>
    intro i w hi h
    rw [show (t + 1).toNat = i by omega]
    exact ⟨w, h, xsame.rf, fun r g => Z_246_143 h.1 ⟨_, h.top, s32, s32, fun _ => g, fun q => by omega⟩⟩
  | succ k ih =>
    intro i w hi h
    have e : trC E s (i + 1) = trC E s i + (if E i ≠ rE i ∧ tN E (i : Int) &&& s ≠ 0 then 1 else 0) := rfl
    by_cases q : E i = rE i
    · obtain ⟨w2, b1, b2, b3⟩ := ih (i + 1) w (by omega) h
      rw [e, if_neg (fun z => z.1 q)] at b3
      exact ⟨w2, b1, b2, fun r g => Z_246_143 h.1 ⟨_, h.top, s32, s32, fun q => by omega, fun _ => ⟨_, _, _, C_misRight h ok (by omega), h.1, fun _ => b3 r g, fun z => absurd q z⟩⟩⟩
    · obtain ⟨w1, a1, a2, a3⟩ := C_testsOf h ok (n := (i : Int)) (by omega) (by omega)
      obtain ⟨w2, b1, b2, b3⟩ := ih (i + 1) w1 (by omega) a2
      rw [e] at b3
      refine ⟨w2, b1, a3.trans b2, fun r g => Z_246_143 h.1 ⟨_, h.top, s32, s32, fun q => by omega, fun _ => ⟨_, _, _, C_misRight h ok (by omega), h.1, fun z => absurd z q, fun _ => ⟨_, _, a1, a2.1, _, nd_all _ (tP_b E i).2.2.2.2.2 s hs, nd_in hs, fun z => ?_, fun z => ?_⟩⟩⟩⟩
      · rw [if_neg (fun y => y.2 (by omega))] at b3
        exact b3 r g
      · rw [if_pos ⟨q, fun y => z (by rw [y]; rfl)⟩] at b3
        exact b3 r g
theorem m_trial (ok : okS c E t ws me) (hc : c + 20 ≤ 600) {x n y : Int} (hx : in32 x) (hn : in32 n) (hy : in32 y) : mAns E t ws me E t ws me 246 [.int (jI x), .int (jI n), .int (jI y)] (.int (jI (trS E t x n y))) := by
  intro w h0
  have h := h0.p0 (v := jI 0)
  have s0 : xsame mAll w (pF w 39 0 (.int (jI 0))) := sm_pF (by decide)
  have ht1 := ok.2.1
  have ht := ok.2.2.1
  have hl := ok.2.2.2.2.2.1
  have x1 := hx.2
  by_cases a : 0 ≤ x ∧ (1 ≤ n ∧ n ≤ 20) ∧ (0 ≤ y ∧ y ≤ 63)
  · by_cases b : 0 ≤ t
    · have h2 := h.pu (j := 14) (v := .long (jL x)) (by decide) (ks_39_14 h.1)
      have dr := (kf_39_14 h.1).putJ (z := x)
      obtain ⟨w2, c1, c2, c3, c4⟩ := L_246a (x := x) (n := n) (y := y) 117 0 _ rfl h2.1 (fun j z hj => by omega)
      have m2 := h2.same1 c2 c1
      obtain ⟨w3, d1, d2, d3⟩ := L_mdraws ok b (x := x) (n := n) (y := y) a.1 (by omega) a.2.1.2 hc n.toNat 0 w2 (by omega) m2 (dr.sm c2 (by decide))
      obtain ⟨w4, e1, e2, e3⟩ := L_mtrial (ok_dr ok b x n.toNat (by omega)) (x := x) (n := n) (s := y.toNat) (by omega) (t + 1).toNat 0 w3 (by omega) d1
      rw [Int.toNat_of_nonneg a.2.2.1] at e3
      obtain ⟨w5, g1, g2, g3, g4⟩ := L_246b (x := x) (n := n) (y := y) (u := trC (drE t x E n.toNat) y.toNat (t + 1).toNat) 117 0 w4 rfl e1.1 (fun j z hj => by omega)
      have fin : mst E t ws me w5 := by
        refine e1.upd ht hl (g2.mono (by decide)) g1 (e1.top.sm g2 (by decide)) (e1.pm.sm g2 (by decide)) (e1.mz.sm g2 (by decide)) (fun k hk => ?_) (fun k hk => (e1.wy ht hk).sm g2 (by decide))
        obtain ⟨r0, r1, r2⟩ := h2.nw ht hk
        exact ⟨g3 _ _ (by omega) (((c3 _ _ (by omega) r0).sm d2 (by decide)).sm e2 (by decide)), g3 _ _ (by omega) (((c3 _ _ (by omega) r1).sm d2 (by decide)).sm e2 (by decide)), g3 _ _ (by omega) (((c3 _ _ (by omega) r2).sm d2 (by decide)).sm e2 (by decide))⟩
      refine ⟨w5, Z_246 h0.1 (fun w1 e _ => ?_), fin, s0.trans ((sm_pF (by decide)).trans ((c2.mono (by decide)).trans ((d2.mono (by decide)).trans ((e2.mono (by decide)).trans (g2.mono (by decide))))))⟩
      subst e
      refine ⟨hx, fun q => by omega, fun _ => ⟨_, _, _, C_isIn hn s32 s32 _, h.1, fun q => absurd a.2.1 q, fun _ => ⟨_, _, _, C_isIn hy s32 s32 _, h.1, fun _ => ⟨_, h.top, s32, fun _ w19 e19 _ => ?_, fun q => by omega⟩, fun q => absurd a.2.2 q⟩⟩⟩
      rw [e19, show trS E t x n y = trC (drE t x E n.toNat) y.toNat (t + 1).toNat by unfold trS; rw [if_pos a, if_pos b]]
      exact c4 _ (d3 _ (e3 _ g4))
    · refine ⟨_, Z_246 h0.1 (fun w1 e _ => ?_), h, s0⟩
      subst e
      rw [show trS E t x n y = -2 by unfold trS; rw [if_pos a, if_neg b]]
      exact ⟨hx, fun q => by omega, fun _ => ⟨_, _, _, C_isIn hn s32 s32 _, h.1, fun q => absurd a.2.1 q, fun _ => ⟨_, _, _, C_isIn hy s32 s32 _, h.1, fun _ => ⟨_, h.top, s32, fun q => absurd q b, fun _ => rfl⟩, fun q => absurd a.2.2 q⟩⟩⟩
  · have e : trS E t x n y = -1 := if_neg a
    rw [e]
    refine ⟨_, Z_246 h0.1 (fun w1 e _ => ?_), h, s0⟩
    subst e
    exact ⟨hx, fun _ => rfl, fun q1 => ⟨_, _, _, C_isIn hn s32 s32 _, h.1, fun _ => rfl, fun q2 => ⟨_, _, _, C_isIn hy s32 s32 _, h.1, fun q3 => absurd ⟨q1, q2, q3⟩ a, fun _ => rfl⟩⟩⟩
end T7
