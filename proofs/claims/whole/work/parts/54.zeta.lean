/-! the calls prime, whole, zeta, genocchi, tangent -/
section Z4
variable {c : Nat} {E : eT} {t : Int} {ws : Nat → Int} {me : memT} {w : xW}
/-! prime -/
def pkF (n : Int) : Nat → Nat → Int → Int
  | 0, _, _ => -2
  | f + 1, i, l => if belP (prZ i) n then (if l = 0 then prZ i else pkF n f (i + 1) (l - 1)) else pkF n f (i + 1) l
def pkS (n k : Int) : Int := if (0 ≤ n ∧ n ≤ 38) ∧ 0 ≤ k then pkF n 46 0 k else -1
theorem L_prime {w : xW} (hC : CS w) {n k : Int} (n0 : 0 ≤ n) (hn : n ≤ 38) (hk : in32 k) : ∀ (f i : Nat) (m : Int), i + f = 46 → 0 ≤ m → m ≤ k → m ≤ i →
    xGo 81 28 [some (.ref 0), some (.int (jI n)), some (.int (jI k)), some (.int (jI m)), some (.ref xP), some (.int (jI 46)), some (.int (jI (i : Int))), none] [] w (some (.int (jI (pkF n f i (k - m)))), w) := by
  intro f
  induction f with
  | zero =>
    intro i m hi m0 mk mi
    exact Z_81_28 hC ⟨s32, s32, fun _ => rfl, fun q => by omega⟩
  | succ f ih =>
    intro i m hi m0 mk mi
    have b := prZ_le i
    have e : pkF n (f + 1) i (k - m) = if belP (prZ i) n then (if k - m = 0 then prZ i else pkF n f (i + 1) (k - m - 1)) else pkF n f (i + 1) (k - m) := rfl
    rw [e]
    refine Z_81_28 hC ⟨s32, s32, fun q => by omega, fun _ => ⟨⟨by omega, by omega⟩, _, _, _, C_isBelow hC b.1 (show prZ i ≤ 200 by omega) s32, hC, fun q => ⟨s32, hk, fun z => ?_, fun z => ?_⟩, fun q => ?_⟩⟩
    · rw [if_pos (show belP (prZ i) n from q), if_neg (by omega), show k - m - 1 = k - (m + 1) by omega]
      exact ih (i + 1) (m + 1) (by omega) (by omega) (by omega) (by omega)
    · rw [if_pos (show belP (prZ i) n from q), if_pos (by omega)]
      rfl
    · rw [if_neg (show ¬ belP (prZ i) n from q)]
      exact ih (i + 1) m (by omega) m0 mk (by omega)
theorem c_prime {n k : Int} (hn : in32 n) (hk : in32 k) : cAns E t ws me E t ws me 81 [.int (jI n), .int (jI k)] (.int (jI (pkS n k))) := by
  intro w h
  by_cases a : (0 ≤ n ∧ n ≤ 38) ∧ 0 ≤ k
  · have l := L_prime h.1 (n := n) (k := k) a.1.1 a.1.2 hk 46 0 0 rfl (by decide) a.2 (by decide)
    rw [Int.sub_zero] at l
    rw [show pkS n k = pkF n 46 0 k from if_pos a]
    exact ⟨w, Z_81 h.1 ⟨_, _, _, C_isEntry hn w, h.1, fun q => absurd a.1 q, fun _ => ⟨hk, fun _ => l, fun q => by omega⟩⟩, h, xsame.rf⟩
  · rw [show pkS n k = -1 from if_neg a]
    exact ⟨w, Z_81 h.1 ⟨_, _, _, C_isEntry hn w, h.1, fun _ => rfl, fun q => ⟨hk, fun q2 => absurd ⟨q, q2⟩ a, fun _ => rfl⟩⟩, h, xsame.rf⟩
theorem L_mprime (h : mst E t ws me w) {n k : Int} (n0 : 0 ≤ n) (hn : n ≤ 38) : ∀ (f i : Nat) (l : Int), i + f = 46 → 0 ≤ l → in32 l →
    xGo 223 24 [some (.ref 39), some (.int (jI n)), some (.int (jI k)), some (.int (jI l)), some (.int (jI (i : Int)))] [] w (some (.int (jI (pkF n f i l))), w) := by
  intro f
  induction f with
  | zero =>
    intro i l hi l0 hl
    exact Z_223_24 h.1 ⟨_, h.pm, s32, s32, fun _ => rfl, fun q => by omega⟩
  | succ f ih =>
    intro i l hi l0 hl
    have b := prZ_le i
    have b2 := prZ_2 i (by omega)
    have rb := rB_pos n.toNat (by omega)
    have iff := bel_rB n.toNat (by omega) i (by omega)
    rw [Int.toNat_of_nonneg n0] at iff
    have m0 := Int.emod_nonneg (rB n.toNat) (show prZ i ≠ 0 by omega)
    have m1 := Int.emod_lt_of_pos (rB n.toNat) (show 0 < prZ i by omega)
    have e : pkF n (f + 1) i l = if belP (prZ i) n then (if l = 0 then prZ i else pkF n f (i + 1) (l - 1)) else pkF n f (i + 1) l := rfl
    rw [e]
    have r2 := (M_rt h (n := n) n0 hn rfl).2.2
    refine Z_223_24 h.1 ⟨_, h.pm, s32, s32, fun q => by omega, fun _ => ⟨by omega, _, r2, by omega, _, h.pr (j := i) (by omega), prZ_in i, s64, by omega, _, tmN (by omega), ⟨by omega, by omega⟩, fun q => ⟨hl, fun z => ?_, fun z => ⟨by omega, _, h.pr (j := i) (by omega), ?_⟩⟩, fun q => ?_⟩⟩
    · rw [if_pos (iff.mpr q), if_neg z]
      exact ih (i + 1) (l - 1) (by omega) (by omega) ⟨by have := hl.1; omega, by have := hl.2; omega⟩
    · rw [if_pos (iff.mpr q), if_pos z]
    · rw [if_neg (fun z => q (iff.mp z))]
      exact ih (i + 1) l (by omega) l0 hl
theorem m_prime {n k : Int} (hn : in32 n) (hk : in32 k) : mAns E t ws me E t ws me 223 [.int (jI n), .int (jI k)] (.int (jI (pkS n k))) := by
  intro w h0
  have h := h0.p0 (v := jI 0)
  have s0 : xsame mAll w (pF w 39 0 (.int (jI 0))) := sm_pF (by decide)
  refine ⟨_, Z_223 h0.1 (fun w3 e _ => ?_), h, s0⟩
  subst e
  by_cases a : (0 ≤ n ∧ n ≤ 38) ∧ 0 ≤ k
  · rw [show pkS n k = pkF n 46 0 k from if_pos a]
    exact ⟨_, _, _, C_misEntry hn _, h.1, fun q => absurd a.1 q, fun _ => ⟨hk, fun _ => L_mprime h a.1.1 a.1.2 46 0 k rfl a.2 hk, fun q => by omega⟩⟩
  · rw [show pkS n k = -1 from if_neg a]
    exact ⟨_, _, _, C_misEntry hn _, h.1, fun _ => rfl, fun q => ⟨hk, fun q2 => absurd ⟨q, q2⟩ a, fun _ => rfl⟩⟩
/-! whole -/
def wmS (n : Nat) : Nat → Int
  | 0 => rA n
  | i + 1 => if rB n % prZ i = 0 then wmS n i + rB n / prZ i else wmS n i
def whS (n : Int) : Int := if (0 ≤ n ∧ n ≤ 38) ∧ (2 ≤ n ∧ n % 2 = 0) then rW n.toNat + wmS n.toNat 46 / rB n.toNat else lNO
theorem wh_c : ∀ n : Nat, n < 39 → (2 ≤ n ∧ n % 2 = 0) → (tv uA (rE n) + apS n 1 46) / uA = rW n + wmS n 46 / rB n ∧ 0 ≤ wmS n 46 ∧ wmS n 46 ≤ 1000000000 := by decide +kernel
theorem c_whole {n : Int} (hn : in32 n) : cAns E t ws me E t ws me 82 [.int (jI n)] (.long (jL (whS n))) := by
  intro w h
  by_cases a : (0 ≤ n ∧ n ≤ 38) ∧ (2 ≤ n ∧ n % 2 = 0)
  · rw [show whS n = _ from if_pos a]
    have wc := (wh_c n.toNat (by omega) (by omega)).1
    rw [Int.toNat_of_nonneg a.1.1] at wc
    obtain ⟨w1, a1, a2, a3, a4⟩ := C_begin h.1 (z := 7420738134810) (by decide) s64
    have h1 := h.s3 a3 a2
    have rp := rB_pos n.toNat (by omega)
    have ra := rA_le n.toNat (by omega)
    obtain ⟨w2, b1, b2, b3, b4⟩ := C_add a2 (f := 1) (x := rW n.toNat) (a := rA n.toNat) (b := rB n.toNat) a4 (by decide) (by decide) (by omega) (rB_dvd n.toNat (by omega)) ⟨by omega, by omega⟩
    obtain ⟨w3, d1, d2, d3, d4⟩ := C_addPrimes (f := 1) a.1.1 a.1.2 (Or.inl rfl) 46 0 w2 (tv uA (rE n.toNat)) rfl b2 (by
      show tot w2 uA (tv uA (rE n.toNat) + 0)
      have e : tv uA (rE n.toNat) + 0 = 0 + 1 * (rW n.toNat * 7420738134810 + rA n.toNat * (7420738134810 / rB n.toNat)) := by
        rw [Int.one_mul, Int.zero_add, Int.add_zero]; rfl
      rw [e]
      exact b4)
    have tl := C_tell d2 d4 (by decide) (by decide)
    rw [wc] at tl
    have f := fw d2 (rW n.toNat + wmS n.toNat 46 / rB n.toNat) (nfA ((tv uA (rE n.toNat) + apS n 1 46) % uA) uA) (nfB ((tv uA (rE n.toNat) + apS n 1 46) % uA) uA)
    have sm : xsame [3, 36] w _ := (a3.mono (by decide)).trans ((b3.mono (by decide)).trans ((d3.mono (by decide)).trans (f.2.2.mono (by decide))))
    exact ⟨_, Z_82 h.1 ⟨_, _, _, C_isEntry hn w, h.1, fun q => absurd a.1 q, fun _ => ⟨_, _, _, C_isEven hn w, h.1, fun _ => ⟨_, a1, a2, _, _, R_whole h1 a.1.1 a.1.2, a2, _, _, R_above h1 a.1.1 a.1.2, a2, _, _, R_below h1 a.1.1 a.1.2, a2, _, b1, b2, _, Z_55 b2 d1, d2, _, tl, f.1, _, (fw0 f.2.1).1, rfl⟩, fun q => absurd a.2 q⟩⟩, h.same sm (by decide) f.1, sm.mono (by decide)⟩
  · rw [show whS n = lNO from if_neg a]
    exact ⟨w, Z_82 h.1 ⟨_, _, _, C_isEntry hn w, h.1, fun _ => rfl, fun q => ⟨_, _, _, C_isEven hn w, h.1, fun q2 => absurd ⟨q, q2⟩ a, fun _ => rfl⟩⟩, h, xsame.rf⟩
theorem L_mwhole (h : mst E t ws me w) {n : Int} (n2 : 2 ≤ n) (ne : n % 2 = 0) (hn : n ≤ 38) : ∀ (f i : Nat), i + f = 46 →
    xGo 224 52 [some (.ref 39), some (.int (jI n)), some (.long (jL (wmS n.toNat i))), none, some (.long (jL (rB n.toNat))), none, some (.int (jI (i : Int)))] [] w (some (.long (jL (rW n.toNat + wmS n.toNat 46 / rB n.toNat))), w) := by
  have rp := rB_pos n.toNat (by omega)
  have wc := wh_c n.toNat (by omega) (by omega)
  intro f
  induction f with
  | zero =>
    intro i hi
    have e : i = 46 := by omega
    subst e
    exact Z_224_52 h.1 ⟨_, h.pm, s32, s32, fun _ => ⟨by omega, _, (M_rt h (n := n) (by omega) hn rfl).1, s64, s64, by omega, _, tdN wc.2.1, rfl⟩, fun q => by omega⟩
  | succ f ih =>
    intro i hi
    have b := prZ_le i
    have b2 := prZ_2 i (by omega)
    have m0 := Int.emod_nonneg (rB n.toNat) (show prZ i ≠ 0 by omega)
    have m1 := Int.emod_lt_of_pos (rB n.toNat) (show 0 < prZ i by omega)
    have e : wmS n.toNat (i + 1) = if rB n.toNat % prZ i = 0 then wmS n.toNat i + rB n.toNat / prZ i else wmS n.toNat i := rfl
    have ih2 := ih (i + 1) (by omega)
    refine Z_224_52 h.1 ⟨_, h.pm, s32, s32, fun q => by omega, fun _ => ⟨by omega, _, h.pr (j := i) (by omega), prZ_in i, s64, by omega, _, tmN (by omega), ⟨by omega, by omega⟩, fun q => ?_, fun q => ⟨by omega, _, h.pr (j := i) (by omega), prZ_in i, by omega, _, tdN (by omega), ?_⟩⟩⟩
    · rw [e, if_neg q] at ih2; exact ih2
    · rw [e, if_pos q] at ih2; exact ih2
theorem m_whole {n : Int} (hn : in32 n) : mAns E t ws me E t ws me 224 [.int (jI n)] (.long (jL (whS n))) := by
  intro w h0
  have h := h0.p0 (v := jI 0)
  have s0 : xsame mAll w (pF w 39 0 (.int (jI 0))) := sm_pF (by decide)
  refine ⟨_, Z_224 h0.1 (fun w3 e _ => ?_), h, s0⟩
  subst e
  by_cases a : (0 ≤ n ∧ n ≤ 38) ∧ (2 ≤ n ∧ n % 2 = 0)
  · rw [show whS n = _ from if_pos a]
    obtain ⟨r0, r1, r2⟩ := M_rt h (n := n) a.1.1 a.1.2 rfl
    exact ⟨_, _, _, C_isIn hn s32 s32 _, h.1, fun q => absurd ⟨a.2.1, a.1.2⟩ q, fun _ => ⟨hn, _, tmN a.1.1, s32, fun _ => ⟨by omega, _, r1, by omega, _, r2, L_mwhole h a.2.1 a.2.2 a.1.2 46 0 rfl⟩, fun q => by omega⟩⟩
  · rw [show whS n = lNO from if_neg a]
    exact ⟨_, _, _, C_isIn hn s32 s32 _, h.1, fun _ => rfl, fun q => ⟨hn, _, tmN (by omega), s32, fun q2 => absurd ⟨⟨by omega, q.2⟩, q.1, by omega⟩ a, fun _ => rfl⟩⟩
/-! zeta -/
def zeS (E : eT) (t n x : Int) : Int := if (0 ≤ n ∧ n ≤ 37) ∧ (0 ≤ x ∧ x ≤ 2) ∧ n + 1 ≤ t then (if n = 0 then frX (E 1) x else frX (frE (-1 * enV (E (n + 1).toNat)) ((E (n + 1).toNat).2.2 * (n + 1))) x) else lNO
theorem c_zeta (ok : okS c E t ws me) {n x : Int} (hn : in32 n) (hx : in32 x) : cAns E t ws me E t ws me 174 [.int (jI n), .int (jI x)] (.long (jL (zeS E t n x))) := by
  intro w h
  have ht1 := ok.2.1
  have ht := ok.2.2.1
  by_cases a : (0 ≤ n ∧ n ≤ 37) ∧ (0 ≤ x ∧ x ≤ 2) ∧ n + 1 ≤ t
  · rw [show zeS E t n x = _ from if_pos a]
    have eb := ok_e ok (n := n + 1) (by omega) a.2.2
    have ea := ok.2.2.2.1 (n + 1).toNat (by omega)
    have ft := C_fetchF h ok (n := n + 1) (by omega) a.2.2
    have f1 := fw h.1 (E (n + 1).toNat).1 (E (n + 1).toNat).2.1 (E (n + 1).toNat).2.2
    by_cases n0 : n = 0
    · rw [if_pos n0]
      have td := td36 (e := E (n + 1).toNat) a.2.1 f1.2.1
      rw [show E (n + 1).toNat = E 1 by rw [n0]; rfl] at td f1 ft
      exact ⟨_, Z_174 h.1 ⟨hn, fun q => by omega, fun _ => ⟨fun q => by omega, fun _ => ⟨_, _, _, C_isPart hx w, h.1, fun q => absurd a.2.1 q, fun _ => ⟨_, h.top, s32, s32, fun _ => ⟨_, ft, f1.1, fun _ => ⟨_, _, td, f1.1, rfl⟩, fun q => by omega⟩, fun q => by omega⟩⟩⟩⟩, h.f36 _ _ _, f1.2.2.mono (by decide)⟩
    · rw [if_neg n0]
      have a1 := ea.1
      have a2 := ea.2.1
      have ml := mf36 f1.1 (f := -1) f1.2.1 eb.2.2.2.1 ⟨by omega, by omega⟩ eb.2.2.1
      have f2 := fw f1.1 (frE (-1 * enV (E (n + 1).toNat)) (E (n + 1).toNat).2.2).1 (frE (-1 * enV (E (n + 1).toNat)) (E (n + 1).toNat).2.2).2.1 (frE (-1 * enV (E (n + 1).toNat)) (E (n + 1).toNat).2.2).2.2
      have fo := frE_ok (N := -1 * enV (E (n + 1).toNat)) eb.2.2.2.1
      have fp := frE_pos (N := -1 * enV (E (n + 1).toNat)) eb.2.2.2.1
      have fx : (frE (-1 * enV (E (n + 1).toNat)) (E (n + 1).toNat).2.2) = (nfW (-1 * (E (n + 1).toNat).1) (-1 * (E (n + 1).toNat).2.1) (E (n + 1).toNat).2.2, nfA (-1 * (E (n + 1).toNat).2.1) (E (n + 1).toNat).2.2, nfB (-1 * (E (n + 1).toNat).2.1) (E (n + 1).toNat).2.2) := (mlE_fr eb.2.2.2.1).symm
      have wb : in64 (frE (-1 * enV (E (n + 1).toNat)) (E (n + 1).toNat).2.2).1 := by
        rw [fx]
        show in64 (-1 * (E (n + 1).toNat).1 + -1 * (E (n + 1).toNat).2.1 / (E (n + 1).toNat).2.2)
        have q1 : -1 ≤ -1 * (E (n + 1).toNat).2.1 / (E (n + 1).toNat).2.2 := Int.le_ediv_of_mul_le eb.2.2.2.1 (by omega)
        have q2 : -1 * (E (n + 1).toNat).2.1 / (E (n + 1).toNat).2.2 < 1 := Int.ediv_lt_of_lt_mul eb.2.2.2.1 (by omega)
        exact ⟨by omega, by omega⟩
      have cmp := fr_div (N := -1 * enV (E (n + 1).toNat)) (D := (E (n + 1).toNat).2.2) (d := n + 1) eb.2.2.2.1 (by omega)
      revert ml f2 fo fp wb cmp
      generalize frE (-1 * enV (E (n + 1).toNat)) (E (n + 1).toNat).2.2 = g
      intro ml f2 fo fp wb cmp
      have m0 := Int.emod_nonneg g.1 (show n + 1 ≠ 0 by omega)
      have m1 := Int.emod_lt_of_pos g.1 (show 0 < n + 1 by omega)
      have q1 := mul_b (a := g.1 % (n + 1)) (A := 38) (b := g.2.2) (B := 1919190) m0 (by omega) (by omega) (by omega)
      have q2 := mul_b (a := g.2.2) (A := 1919190) (b := n + 1) (B := 38) (by omega) (by omega) (by omega) (by omega)
      have dv := df36 f2.1 (d := n + 1) f2.2.1 fp.1 (by omega) s64 wb ⟨by omega, by omega⟩ ⟨by omega, by omega⟩
      rw [cmp] at dv
      have f3 := fw f2.1 (frE (-1 * enV (E (n + 1).toNat)) ((E (n + 1).toNat).2.2 * (n + 1))).1 (frE (-1 * enV (E (n + 1).toNat)) ((E (n + 1).toNat).2.2 * (n + 1))).2.1 (frE (-1 * enV (E (n + 1).toNat)) ((E (n + 1).toNat).2.2 * (n + 1))).2.2
      have sm : xsame [36] w _ := f1.2.2.trans (f2.2.2.trans f3.2.2)
      exact ⟨_, Z_174 h.1 ⟨hn, fun q => by omega, fun _ => ⟨fun q => by omega, fun _ => ⟨_, _, _, C_isPart hx w, h.1, fun q => absurd a.2.1 q, fun _ => ⟨_, h.top, s32, s32, fun _ => ⟨_, ft, f1.1, fun q => by omega, fun _ => ⟨_, ml, f2.1, _, dv, f3.1, _, _, td36 a.2.1 f3.2.1, f3.1, rfl⟩⟩, fun q => by omega⟩⟩⟩⟩, h.same sm (by decide) f3.1, sm.mono (by decide)⟩
  · rw [show zeS E t n x = lNO from if_neg a]
    exact ⟨w, Z_174 h.1 ⟨hn, fun _ => rfl, fun q1 => ⟨fun _ => rfl, fun q2 => ⟨_, _, _, C_isPart hx w, h.1, fun _ => rfl, fun q3 => ⟨_, h.top, s32, s32, fun q4 => absurd ⟨⟨q1, by omega⟩, q3, q4⟩ a, fun _ => rfl⟩⟩⟩⟩, h, xsame.rf⟩
theorem M_nwx (h : mst E t ws me w) (ht : t ≤ 38) {n x : Int} (hn : 0 ≤ n) (hn2 : n ≤ t) (hx : 0 ≤ x ∧ x ≤ 2) : rL w 41 (3 * n + x).toNat (frX (E n.toNat) x) := by
  obtain ⟨r0, r1, r2⟩ := M_nw h ht hn hn2 rfl
  unfold frX frT
  by_cases x0 : x = 0
  · rw [if_pos x0, x0, Int.add_zero]; exact r0
  · rw [if_neg x0]
    by_cases x1 : x = 1
    · rw [if_pos x1, x1]; exact r1
    · rw [if_neg x1, show x = 2 by omega]; exact r2
theorem m_zeta (ok : okS c E t ws me) {n x : Int} (hn : in32 n) (hx : in32 x) : mAns E t ws me E t ws me 296 [.int (jI n), .int (jI x)] (.long (jL (zeS E t n x))) := by
  intro w h0
  have h := h0.p0 (v := jI 0)
  have s0 : xsame mAll w (pF w 39 0 (.int (jI 0))) := sm_pF (by decide)
  have ht1 := ok.2.1
  have ht := ok.2.2.1
  by_cases a : (0 ≤ n ∧ n ≤ 37) ∧ (0 ≤ x ∧ x ≤ 2) ∧ n + 1 ≤ t
  · rw [show zeS E t n x = _ from if_pos a]
    by_cases n0 : n = 0
    · rw [if_pos n0]
      have r := M_nwx h ht (n := n + 1) (x := x) (by omega) a.2.2 a.2.1
      rw [show E (n + 1).toNat = E 1 by rw [n0]; rfl] at r
      refine ⟨_, Z_296 h0.1 (fun w3 e _ => ?_), h, s0⟩
      subst e
      exact ⟨_, _, _, C_isIn hn s32 s32 _, h.1, fun q => absurd a.1 q, fun _ => ⟨_, _, _, C_isIn hx s32 s32 _, h.1, fun q => absurd a.2.1 q, fun _ => ⟨_, h.top, s32, s32, fun _ => ⟨hn, fun q => absurd n0 q, fun _ => ⟨by omega, _, r, rfl⟩⟩, fun q => by omega⟩⟩⟩
    · rw [if_neg n0]
      have eb := ok_e ok (n := n + 1) (by omega) a.2.2
      have ea := ok.2.2.2.1 (n + 1).toNat (by omega)
      have a1 := ea.1
      have a2 := ea.2.1
      obtain ⟨r0, r1, r2⟩ := M_nw h ht (n := n + 1) (by omega) a.2.2 rfl
      have fin : ∀ u v : Int, u * (E (n + 1).toNat).2.2 + v = -1 * enV (E (n + 1).toNat) → 0 ≤ v → v < (E (n + 1).toNat).2.2 → -1000000000000000 ≤ u → u ≤ 1000000000000000 → xCall 193 [.long (jL u), .long (jL (n + 1))] (pF w 39 0 (.int (jI 0))) (some (.long (jL (u / (n + 1)))), pF w 39 0 (.int (jI 0))) ∧ xCall 194 [.ref 39, .ref 62, .int (jI 0), .long (jL (u / (n + 1))), .long (jL ((u - u / (n + 1) * (n + 1)) * (E (n + 1).toNat).2.2 + v)), .long (jL ((E (n + 1).toNat).2.2 * (n + 1)))] (pF w 39 0 (.int (jI 0))) (none, l3 (pF w 39 0 (.int (jI 0))) 62 0 (frE (-1 * enV (E (n + 1).toNat)) ((E (n + 1).toNat).2.2 * (n + 1))).1 (frE (-1 * enV (E (n + 1).toNat)) ((E (n + 1).toNat).2.2 * (n + 1))).2.1 (frE (-1 * enV (E (n + 1).toNat)) ((E (n + 1).toNat).2.2 * (n + 1))).2.2) := by
        intro u v hu v0 v1 u0 u1
        refine ⟨C_downBy ⟨by omega, by omega⟩ s64 (by omega) _ h.1, ?_⟩
        have dm := dm_e u (n + 1)
        have m0 := Int.emod_nonneg u (show n + 1 ≠ 0 by omega)
        have m1 := Int.emod_lt_of_pos u (show 0 < n + 1 by omega)
        have eR : u - u / (n + 1) * (n + 1) = u % (n + 1) := by omega
        rw [eR]
        have q1 := mul_b (a := u % (n + 1)) (A := n) (b := (E (n + 1).toNat).2.2) (B := (E (n + 1).toNat).2.2) m0 (by omega) (by omega) (by omega)
        have q2 := mul_b (a := (E (n + 1).toNat).2.2) (A := 1919190) (b := n + 1) (B := 38) (by omega) (by omega) (by omega) (by omega)
        have q3 : (E (n + 1).toNat).2.2 * (n + 1) = n * (E (n + 1).toNat).2.2 + (E (n + 1).toNat).2.2 := by rw [Int.mul_add, Int.mul_one, Int.mul_comm]
        have lp := lp62 h.1 (x := u / (n + 1)) (a := u % (n + 1) * (E (n + 1).toNat).2.2 + v) (b := (E (n + 1).toNat).2.2 * (n + 1)) (by omega) (by omega) (by omega)
        have eN : u / (n + 1) * ((E (n + 1).toNat).2.2 * (n + 1)) + (u % (n + 1) * (E (n + 1).toNat).2.2 + v) = -1 * enV (E (n + 1).toNat) := by
          have s : u / (n + 1) * ((E (n + 1).toNat).2.2 * (n + 1)) + u % (n + 1) * (E (n + 1).toNat).2.2 = (u / (n + 1) * (n + 1) + u % (n + 1)) * (E (n + 1).toNat).2.2 := by
            rw [Int.add_mul, Int.mul_comm (E (n + 1).toNat).2.2 (n + 1), Int.mul_assoc]
          rw [← dm] at s
          omega
        rw [eN] at lp
        exact lp
      have eV : -1 * enV (E (n + 1).toNat) = -(E (n + 1).toNat).1 * (E (n + 1).toNat).2.2 - (E (n + 1).toNat).2.1 := by
        unfold enV; rw [Int.neg_mul (E (n + 1).toNat).1]; omega
      have c3 := l3_C h.1 (a := 62) (n := 0) (x := (frE (-1 * enV (E (n + 1).toNat)) ((E (n + 1).toNat).2.2 * (n + 1))).1) (y := (frE (-1 * enV (E (n + 1).toNat)) ((E (n + 1).toNat).2.2 * (n + 1))).2.1) (z := (frE (-1 * enV (E (n + 1).toNat)) ((E (n + 1).toNat).2.2 * (n + 1))).2.2)
      have rd := rd62 h.1 (e := frE (-1 * enV (E (n + 1).toNat)) ((E (n + 1).toNat).2.2 * (n + 1))) a.2.1
      refine ⟨_, Z_296 h0.1 (fun w3 e _ => ?_), h.same1 l3_sm c3, s0.trans (l3_sm.mono (by decide))⟩
      subst e
      refine ⟨_, _, _, C_isIn hn s32 s32 _, h.1, fun q => absurd a.1 q, fun _ => ⟨_, _, _, C_isIn hx s32 s32 _, h.1, fun q => absurd a.2.1 q, fun _ => ⟨_, h.top, s32, s32, fun _ => ⟨hn, fun _ => ⟨by omega, _, r0, by omega, _, r1, by omega, _, r2, ⟨by omega, by omega⟩, fun q => ?_, fun q => ?_⟩, fun q => absurd q n0⟩, fun q => by omega⟩⟩⟩
      · obtain ⟨g1, g2⟩ := fin (-(E (n + 1).toNat).1) (-(E (n + 1).toNat).2.1) (by rw [eV]; omega) q (by omega) (by omega) (by omega)
        exact ⟨_, _, g1, h.1, _, g2, c3, a.2.1.1, _, rd, rfl⟩
      · obtain ⟨g1, g2⟩ := fin (-(E (n + 1).toNat).1 - 1) (-(E (n + 1).toNat).2.1 + (E (n + 1).toNat).2.2) (by rw [eV, Int.sub_mul, Int.one_mul]; omega) (by omega) (by omega) (by omega) (by omega)
        exact ⟨_, _, g1, h.1, _, g2, c3, a.2.1.1, _, rd, rfl⟩
  · rw [show zeS E t n x = lNO from if_neg a]
    refine ⟨_, Z_296 h0.1 (fun w3 e _ => ?_), h, s0⟩
    subst e
    exact ⟨_, _, _, C_isIn hn s32 s32 _, h.1, fun _ => rfl, fun q1 => ⟨_, _, _, C_isIn hx s32 s32 _, h.1, fun _ => rfl, fun q2 => ⟨_, h.top, s32, s32, fun q3 => absurd ⟨q1, q2, q3⟩ a, fun _ => rfl⟩⟩⟩
end Z4
