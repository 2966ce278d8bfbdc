/-! the call culprit -/
theorem rE_ok {n : Nat} (hn : n < 39) (c : Nat) : eOK c n (rE n) := by
  have a := rA_le n hn
  exact ⟨a.1, a.2, Int.dvd_refl _, rG n hn, by show rW n - 9 * (c : Int) - 1 ≤ rW n; omega, by show rW n ≤ rW n + 9 * (c : Int) + 1; omega⟩
theorem updE_same {E : eT} {n : Nat} {e : Int × Int × Int} (h : E n = e) : updE E n e = E := by
  funext k
  by_cases q : k = n
  · rw [q, updE_at, h]
  · exact updE_ne q
theorem updE_back {E : eT} {n : Nat} {e : Int × Int × Int} : updE (updE E n e) n (E n) = E := by
  funext k
  by_cases q : k = n
  · rw [q, updE_at]
  · rw [updE_ne q, updE_ne q]
section T8
variable {c : Nat} {E : eT} {t : Int} {ws : Nat → Int} {me : memT} {w : xW}
theorem ok_rt (ok : okS c E t ws me) {n : Nat} (hn : n < 39) : okS c (updE E n (rE n)) t ws me := by
  refine ⟨ok.1, ok.2.1, ok.2.2.1, fun k hk => ?_, ok.2.2.2.2⟩
  by_cases q : k = n
  · rw [q, updE_at]; exact rE_ok hn c
  · rw [updE_ne q]; exact ok.2.2.2.1 k hk
abbrev cuP (E : eT) (t : Int) (s n : Nat) : Prop := suS (updE E n (rE n)) s (t + 1).toNat = 0
def cuF (E : eT) (t : Int) (s : Nat) : Nat → Nat → Int
  | 0, _ => -2
  | k + 1, n => if cuP E t s n then (n : Int) else cuF E t s k (n + 1)
def cuS (E : eT) (t x : Int) : Int := if 0 ≤ x ∧ x ≤ 63 then cuF E t x.toNat (t + 1).toNat 0 else -1
theorem L_109f (h : cst E t ws me w) {x p f v : Int32} (hf : 0 ≤ f) : xGo 109 32 [some (.ref 0), some (.int x), some (.int p), some (.int f), some (.int v), none] [] w (some (.int f), w) :=
  S_109_32 ⟨_, h.2.1, _, rfl, fun _ => rfl, fun _ => ⟨fun _ => rfl, fun z => absurd hf z⟩⟩
theorem jI_0le {n : Nat} (h : n ≤ 1000) : (0 : Int32) ≤ jI (n : Int) := (jI_le z32 s32).mpr (by omega)
theorem L_109 (ok : okS c E t ws me) {s : Nat} (hs : s < 64) : ∀ (k i : Nat) (w : xW), (i : Int) + k = t + 1 → cst E t ws me w → kept w t E →
    ∃ w', xGo 109 32 [some (.ref 0), some (.int (jI (s : Int))), some (.int (bz (suS E s (t + 1).toNat = 0))), some (.int (-2 : Int32)), some (.int (jI (i : Int))), none] [] w (some (.int (jI (cuF E t s k i))), w') ∧ cst E t ws me w' ∧ xsame [3, 13, 14, 15, 36] w w' := by
  have ht1 := ok.2.1
  have ht := ok.2.2.1
  have hl := ok.2.2.2.2.2.1
  intro k
  induction k with
  | zero =>
    intro i w hi h hk
    exact ⟨w, S_109_32 ⟨_, h.2.1, _, rfl, fun _ => rfl, fun q => absurd ((jI_lt s32 s32).mpr (by omega)) q⟩, h, xsame.rf⟩
  | succ k ih =>
    intro i w hi h hk
    have nlt : ¬ jI t < jI (i : Int) := fun q => by have := (jI_lt (a := t) (b := (i : Int)) s32 s32).mp q; omega
    have nxt : jI (i : Int) + 1 = jI ((i + 1 : Nat) : Int) := by rw [show (1 : Int32) = jI 1 from rfl, jI_add]; rfl
    have eF : cuF E t s (k + 1) i = if cuP E t s i then (i : Int) else cuF E t s k (i + 1) := rfl
    by_cases q : E i = rE i
    · have eP : updE E i (rE i) = E := updE_same q
      have bq : ¬ bz (E i = rE i) = 0 := by rw [bz_t q]; decide
      by_cases p : suS E s (t + 1).toNat = 0
      · rw [eF, if_pos (show cuP E t s i by unfold cuP; rw [eP]; exact p)]
        refine ⟨w, S_109_32 ⟨_, h.2.1, _, rfl, fun z => absurd z nlt, fun _ => ⟨fun z => absurd z (by decide), fun _ => ⟨_, _, C_isRight h ok (by omega), fun _ => ⟨fun z => ?_, fun _ v e => ?_⟩, fun z => absurd bq z⟩⟩⟩, h, xsame.rf⟩
        · rw [bz_t p] at z; exact absurd z (by decide)
        · exact L_109f h (jI_0le (by omega))
      · rw [eF, if_neg (show ¬ cuP E t s i by unfold cuP; rw [eP]; exact p)]
        obtain ⟨w2, b1, b2, b3⟩ := ih (i + 1) w (by omega) h hk
        refine ⟨w2, S_109_32 ⟨_, h.2.1, _, rfl, fun z => absurd z nlt, fun _ => ⟨fun z => absurd z (by decide), fun _ => ⟨_, _, C_isRight h ok (by omega), fun _ => ⟨fun _ v e => ?_, fun z => ?_⟩, fun z => absurd bq z⟩⟩⟩, b2, b3⟩
        · rw [e, nxt]; exact b1
        · exact absurd (bz_f p) z
    · have bq : ¬ ¬ bz (E i = rE i) = 0 := by rw [bz_f q]; decide
      have h1 := h.f36 (rW i) (rA i) (rB i)
      have ft := C_fetchR h (n := (i : Int)) (by omega) (by omega)
      rw [Int.toNat_natCast] at ft
      obtain ⟨x0, y0, z0, f36⟩ := h.1.fr36
      have st := C_storeN h1.1 (q := 36) (by decide) (n := (i : Int)) (by omega) (by omega) (set_get f36)
      rw [Int.toNat_natCast] at st
      have h2 : cst (updE E i (rE i)) t ws me (s3 (w.set 36 (frac (rW i) (rA i) (rB i))) i (rW i) (rA i) (rB i)) := c_s3w h1 ht hl (by omega)
      obtain ⟨w3, a1, a2, a3⟩ := C_allPass h2 (ok_rt ok (n := i) (by omega)) hs
      have sm1 : xsame [13, 14, 15, 36] w (s3 (w.set 36 (frac (rW i) (rA i) (rB i))) i (rW i) (rA i) (rB i)) := (xsame.set (S := [13, 14, 15, 36]) (by decide)).trans (s3_sm.mono (by decide))
      have hk3 : kept w3 t E := (hk.sm sm1 (by decide) (by decide) (by decide)).sm a3 (by decide) (by decide) (by decide)
      obtain ⟨w4, d1, d2, d3, d4⟩ := C_unkeep a2 ht hl hk3
      have sm4 : xsame [3, 13, 14, 15, 36] w w4 := (sm1.mono (by decide)).trans ((a3.mono (by decide)).trans (d4.mono (by decide)))
      by_cases p : cuP E t s i
      · rw [eF, if_pos p]
        refine ⟨w4, S_109_32 ⟨_, h.2.1, _, rfl, fun z => absurd z nlt, fun _ => ⟨fun z => absurd z (by decide), fun _ => ⟨_, _, C_isRight h ok (by omega), fun z => absurd z bq, fun _ => ⟨_, h.2.1, _, rfl, _, rfl, _, h.1.e7, _, ft, _, h1.2.1, _, rfl, _, rfl, _, h1.1.e12, _, st, _, h2.2.1, _, _, a1, _, a2.2.1, _, rfl, _, rfl, _, a2.1.e12, _, d1, fun z => ?_, fun _ v e => L_109f d2 (jI_0le (by omega))⟩⟩⟩⟩, d2, sm4⟩
        rw [bz_t p] at z; exact absurd z (by decide)
      · rw [eF, if_neg p]
        obtain ⟨w5, b1, b2, b3⟩ := ih (i + 1) w4 (by omega) d2 d3
        refine ⟨w5, S_109_32 ⟨_, h.2.1, _, rfl, fun z => absurd z nlt, fun _ => ⟨fun z => absurd z (by decide), fun _ => ⟨_, _, C_isRight h ok (by omega), fun z => absurd z bq, fun _ => ⟨_, h.2.1, _, rfl, _, rfl, _, h.1.e7, _, ft, _, h1.2.1, _, rfl, _, rfl, _, h1.1.e12, _, st, _, h2.2.1, _, _, a1, _, a2.2.1, _, rfl, _, rfl, _, a2.1.e12, _, d1, fun _ v e => ?_, fun z => absurd (bz_f p) z⟩⟩⟩⟩, b2, sm4.trans b3⟩
        rw [e, nxt]; exact b1
theorem c_culprit (ok : okS c E t ws me) {x : Int} (hx : in32 x) : cAns E t ws me E t ws me 109 [.int (jI x)] (.int (jI (cuS E t x))) := by
  intro w h
  have ht1 := ok.2.1
  have ht := ok.2.2.1
  by_cases a : 0 ≤ x ∧ x ≤ 63
  · obtain ⟨w1, a1, a2, a3⟩ := C_allPass h ok (s := x.toNat) (by omega)
    obtain ⟨w2, b1, b2, b3, b4⟩ := C_keep a2 ht
    obtain ⟨w3, d1, d2, d3⟩ := L_109 ok (s := x.toNat) (by omega) (t + 1).toNat 0 w2 (by omega) b2 b3
    rw [Int.toNat_of_nonneg a.1] at a1 d1
    rw [show cuS E t x = cuF E t x.toNat (t + 1).toNat 0 from if_pos a]
    exact ⟨w3, E_109 (S_109_0 ⟨_, _, C_areTests hx w, fun _ => ⟨_, h.2.1, _, _, a1, _, a2.2.1, _, rfl, _, rfl, _, a2.1.e17, _, b1, d1⟩, fun q => absurd (by rw [bz_t a]; decide) q⟩), d2, (a3.mono (by decide)).trans ((b4.mono (by decide)).trans (d3.mono (by decide)))⟩
  · rw [show cuS E t x = -1 from if_neg a]
    exact ⟨w, E_109 (S_109_0 ⟨_, _, C_areTests hx w, fun q => absurd (bz_f a) q, fun _ => rfl⟩), h, xsame.rf⟩
theorem L_244 (ok : okS c E t ws me) {s : Nat} (hs : s < 64) : ∀ (k i : Nat) (w : xW), (i : Int) + k = t + 1 → mst E t ws me w →
    ∃ w', xGo 244 19 [some (.ref 39), some (.int (jI (s : Int))), some (.int (jI (i : Int))), none, none, none, none, none, none, none] [] w (some (.int (jI (cuF E t s k i))), w') ∧ mst E t ws me w' ∧ xsame [39, 41] w w' := by
  have ht1 := ok.2.1
  have ht := ok.2.2.1
  have hl := ok.2.2.2.2.2.1
  intro k
  induction k with
  | zero =>
    intro i w hi h
    obtain ⟨th, sw, sr, dr, h39⟩ := h.2.1
    exact ⟨w, S_244_19 ⟨_, h39, _, rfl, fun _ => rfl, fun q => absurd ((jI_lt s32 s32).mpr (by omega)) q⟩, h, xsame.rf⟩
  | succ k ih =>
    intro i w hi h
    have nlt : ¬ jI t < jI (i : Int) := fun q => by have := (jI_lt (a := t) (b := (i : Int)) s32 s32).mp q; omega
    have nxt : jI (i : Int) + 1 = jI ((i + 1 : Nat) : Int) := by rw [show (1 : Int32) = jI 1 from rfl, jI_add]; rfl
    have eF : cuF E t s (k + 1) i = if cuP E t s i then (i : Int) else cuF E t s k (i + 1) := rfl
    obtain ⟨th, sw, sr, dr, h39⟩ := h.2.1
    obtain ⟨fr, h40, hr⟩ := h.2.2.1
    obtain ⟨ft, h41, hf⟩ := h.2.2.2.1
    obtain ⟨v1, v2, v3⟩ := hf i (by omega)
    obtain ⟨u1, u2, u3⟩ := hr i (by omega)
    have l1 := C_lays h.1 (a := 41) (N := 117) (n := (i : Int)) (x := rW i) (y := rA i) (z := rB i) (kl_41 h.1) (by decide) (by omega) (by omega)
    rw [Int.toNat_natCast] at l1
    have h2 : mst (updE E i (rE i)) t ws me (l3 w 41 i (rW i) (rA i) (rB i)) := h.l3w ht hl (by omega)
    obtain ⟨w3, a1, a2, a3⟩ := C_mfails h2 (ok_rt ok (n := i) (by omega)) hs
    have l2 := C_lays a2.1 (a := 41) (N := 117) (n := (i : Int)) (x := (E i).1) (y := (E i).2.1) (z := (E i).2.2) (kl_41 a2.1) (by decide) (by omega) (by omega)
    rw [Int.toNat_natCast] at l2
    have h4 : mst (updE (updE E i (rE i)) i (E i)) t ws me (l3 w3 41 i (E i).1 (E i).2.1 (E i).2.2) := a2.l3w ht hl (by omega)
    rw [updE_back] at h4
    obtain ⟨th2, sw2, sr2, dr2, h39b⟩ := h2.2.1
    obtain ⟨th3, sw3, sr3, dr3, h39c⟩ := a2.2.1
    have sm4 : xsame [39, 41] w (l3 w3 41 i (E i).1 (E i).2.1 (E i).2.2) := (l3_sm.mono (by decide)).trans ((a3.mono (by decide)).trans (l3_sm.mono (by decide)))
    have i0 : ((3 : Int32) * jI (i : Int)).toNatClampNeg = 3 * i := by rw [ix0, ixn (by omega)]
    have i1 : ((3 : Int32) * jI (i : Int) + (1 : Int32)).toNatClampNeg = 3 * i + 1 := by rw [ix1, ixn (by omega)]
    have i2 : ((3 : Int32) * jI (i : Int) + (2 : Int32)).toNatClampNeg = 3 * i + 2 := by rw [ix2, ixn (by omega)]
    have b0 : ¬ ((3 : Int32) * jI (i : Int) < 0 ∨ 117 ≤ ((3 : Int32) * jI (i : Int)).toNatClampNeg) := by rw [ix0]; exact ixin (by omega) (by decide)
    have b1 : ¬ ((3 : Int32) * jI (i : Int) + (1 : Int32) < 0 ∨ 117 ≤ ((3 : Int32) * jI (i : Int) + (1 : Int32)).toNatClampNeg) := by rw [ix1]; exact ixin (by omega) (by decide)
    have b2 : ¬ ((3 : Int32) * jI (i : Int) + (2 : Int32) < 0 ∨ 117 ≤ ((3 : Int32) * jI (i : Int) + (2 : Int32)).toNatClampNeg) := by rw [ix2]; exact ixin (by omega) (by decide)
    have e1 : fr ((3 : Int32) * jI (i : Int)).toNatClampNeg = jL (rW i) := by rw [i0]; exact u1
    have e2 : fr ((3 : Int32) * jI (i : Int) + (1 : Int32)).toNatClampNeg = jL (rA i) := by rw [i1]; exact u2
    have e3 : fr ((3 : Int32) * jI (i : Int) + (2 : Int32)).toNatClampNeg = jL (rB i) := by rw [i2]; exact u3
    rw [← e1, ← e2, ← e3] at l1
    by_cases p : cuP E t s i
    · rw [eF, if_pos p]
      refine ⟨_, S_244_19 ⟨_, h39, _, rfl, fun z => absurd z nlt, fun _ => ⟨_, rfl, _, _, h41, b0, fun v11 e11 => ⟨b1, fun v13 e13 => ⟨b2, fun v15 e15 => ⟨_, rfl, _, _, h40, b0, b1, b2, _, l1, _, h39b, _, _, a1, _, h39c, _, rfl, _, ?_, fun z => ?_, fun _ => rfl⟩⟩⟩⟩⟩, h4, sm4⟩
      · rw [e11, e13, e15, i0, i1, i2, v1, v2, v3]; exact l2
      · exact absurd (bz_f (fun y => y p)) z
    · rw [eF, if_neg p]
      obtain ⟨w5, g1, g2, g3⟩ := ih (i + 1) _ (by omega) h4
      refine ⟨w5, S_244_19 ⟨_, h39, _, rfl, fun z => absurd z nlt, fun _ => ⟨_, rfl, _, _, h41, b0, fun v11 e11 => ⟨b1, fun v13 e13 => ⟨b2, fun v15 e15 => ⟨_, rfl, _, _, h40, b0, b1, b2, _, l1, _, h39b, _, _, a1, _, h39c, _, rfl, l3 w3 41 i (E i).1 (E i).2.1 (E i).2.2, ?_, fun _ v e => ?_, fun z => ?_⟩⟩⟩⟩⟩, g2, sm4.trans g3⟩
      · rw [e11, e13, e15, i0, i1, i2, v1, v2, v3]; exact l2
      · rw [e, nxt]; exact g1
      · exact absurd (show ¬ bz (suS (updE E i (rE i)) s (t + 1).toNat ≠ 0) = 0 by rw [bz_t p]; decide) z
theorem m_culprit (ok : okS c E t ws me) {x : Int} (hx : in32 x) : mAns E t ws me E t ws me 244 [.int (jI x)] (.int (jI (cuS E t x))) := by
  intro w h0
  have ht1 := ok.2.1
  have ht := ok.2.2.1
  obtain ⟨fs, f1, f2, h⟩ := h0.begin
  have s0 : xsame mAll w (w.set 39 (.inr (12, fs.set 0 (.int (0 : Int32))))) := xsame.set (by decide)
  by_cases a : 0 ≤ x ∧ x ≤ 63
  · obtain ⟨w3, d1, d2, d3⟩ := L_244 ok (s := x.toNat) (by omega) (t + 1).toNat 0 _ (by omega) h
    rw [Int.toNat_of_nonneg a.1] at d1
    rw [show cuS E t x = cuF E t x.toNat (t + 1).toNat 0 from if_pos a]
    refine ⟨w3, E_244 (S_244_0 ⟨_, f1, f2, fun w4 e4 => ?_⟩), d2, s0.trans (d3.mono (by decide))⟩
    subst e4
    exact ⟨_, _, C_isIn (a := 0) (b := 63) hx s32 s32 _, fun _ => d1, fun q => absurd (show ¬ bz (0 ≤ x ∧ x ≤ 63) = 0 by rw [bz_t a]; decide) q⟩
  · rw [show cuS E t x = -1 from if_neg a]
    refine ⟨_, E_244 (S_244_0 ⟨_, f1, f2, fun w4 e4 => ?_⟩), h, s0⟩
    subst e4
    exact ⟨_, _, C_isIn (a := 0) (b := 63) hx s32 s32 _, fun q => absurd (bz_f a) q, fun _ => rfl⟩
end T8
