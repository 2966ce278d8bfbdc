/-! the model's constructor, whole; the start of a run -/
theorem HM_C {p : xW} (hp : p.length = 39) (hC : CT p) : CU (HM p) := by
  have hl : (HM p).length = 67 := by
    unfold HM
    rw [List.length_append, hp]
    rfl
  refine ⟨by rw [hl]; decide, fun i hi => ?_⟩
  by_cases q : i < 39
  · obtain ⟨c, h1, h2⟩ := hC.2 i q
    refine ⟨c, ?_, h2⟩
    unfold HM
    rw [List.getElem?_append_left (by omega)]
    exact h1
  · obtain ⟨k, rfl⟩ : ∃ k, i = 39 + k := ⟨i - 39, by omega⟩
    have hk : k < 28 := by omega
    unfold HM
    rw [apm hp]
    match k, hk with
    | 0, _ => exact ⟨_, rfl, 0, -1, 0, 0, 0, 0, 0, rfl⟩
    | 1, _ => exact ⟨_, rfl, _, rfl⟩
    | 2, _ => exact ⟨_, rfl, _, rfl⟩
    | 3, _ => exact ⟨_, rfl, _, rfl⟩
    | 4, _ => exact ⟨_, rfl, _, rfl⟩
    | 5, _ => exact ⟨_, rfl, _, rfl⟩
    | 6, _ => exact ⟨_, rfl, _, rfl⟩
    | 7, _ => exact ⟨_, rfl, _, rfl⟩
    | 8, _ => exact ⟨_, rfl, _, rfl⟩
    | 9, _ => exact ⟨_, rfl, _, rfl⟩
    | 10, _ => exact ⟨_, rfl, _, rfl⟩
    | 11, _ => exact ⟨_, rfl, _, rfl⟩
    | 12, _ => exact ⟨_, rfl, _, rfl⟩
    | 13, _ => exact ⟨_, rfl, _, rfl⟩
    | 14, _ => exact ⟨_, rfl, _, rfl⟩
    | 15, _ => exact ⟨_, rfl, _, rfl⟩
    | 16, _ => exact ⟨_, rfl, _, rfl⟩
    | 17, _ => exact ⟨_, rfl, _, rfl⟩
    | 18, _ => exact ⟨_, rfl, _, rfl⟩
    | 19, _ => exact ⟨_, rfl, _, rfl⟩
    | 20, _ => exact ⟨_, rfl, _, rfl⟩
    | 21, _ => exact ⟨_, rfl, _, rfl⟩
    | 22, _ => exact ⟨_, rfl, _, rfl⟩
    | 23, _ => exact ⟨_, rfl, _, rfl⟩
    | 24, _ => exact ⟨_, rfl, _, rfl⟩
    | 25, _ => exact ⟨_, rfl, _, rfl⟩
    | 26, _ => exact ⟨_, rfl, _, rfl⟩
    | 27, _ => exact ⟨_, rfl, _, rfl⟩
    | n + 28, h => exact absurd h (by omega)
theorem CU.sm {w w' : xW} {th tp pm mm : Int32} {sw sr dr : Int64} {f : Nat → Int32} (hC : CU w) (hs : xsame [39, 44] w w') (h39 : w'[39]? = some (mMain th tp pm mm sw sr dr)) (h44 : w'[44]? = some (aI 46 f)) : CU w' := by
  refine ⟨by rw [hs.1]; exact hC.1, fun i hi => ?_⟩
  by_cases e1 : i = 39
  · subst e1
    exact ⟨_, h39, _, _, _, _, _, _, _, rfl⟩
  · by_cases e2 : i = 44
    · subst e2
      exact ⟨_, h44, _, rfl⟩
    · obtain ⟨c, h1, h2⟩ := hC.2 i hi
      exact ⟨c, hs.get (by simp [e1, e2]) h1, h2⟩
theorem fJ.fs {w : xW} {a ci j : Nat} {z : Int} {fs : List Value} (h : fJ w a ci j z) (hw : w[a]? = some (.inr (ci, fs))) : fs[j]? = some (.long (jL z)) := by
  obtain ⟨fs', h1, h2⟩ := h
  rw [hw] at h1
  have e : fs = fs' := congrArg Prod.snd (Sum.inr.inj (Option.some.inj h1))
  rw [e]
  exact h2
theorem CU.m39 {w : xW} (hC : CU w) : ∃ fs, w[39]? = some (.inr (12, fs)) ∧ fs[1]? = some (.ref 40) := by
  obtain ⟨c, h1, h2⟩ := hC.2 39 (by decide)
  obtain ⟨th, tp, pm, mm, sw, sr, dr, rfl⟩ := h2
  exact ⟨_, h1, rfl⟩
theorem CU.l40 {w : xW} (hC : CU w) : lenL w 40 117 := by
  obtain ⟨c, h1, h2⟩ := hC.2 40 (by decide)
  obtain ⟨f, rfl⟩ := h2
  exact ⟨f, h1⟩
def qtR (n T : Int) : Int := (-(T / 7420738134810) + (-(T % 7420738134810)) / 7420738134810) / (n + 1)
def qtN (n T : Int) : Int := ((-(T / 7420738134810) + (-(T % 7420738134810)) / 7420738134810) - qtR n T * (n + 1)) * 7420738134810 + (-(T % 7420738134810) - (-(T % 7420738134810)) / 7420738134810 * 7420738134810)
def qtE (n T : Int) : Int × Int × Int := (qtR n T, prA (qtN n T) (7420738134810 * (n + 1)), prB (qtN n T) (7420738134810 * (n + 1)))
theorem qt_c : ∀ n : Nat, n < 39 → 1 ≤ n → qtE n (sTf (pasr (n + 1)) n) = rE n ∧ -1000000000000000000 ≤ sTf (pasr (n + 1)) n / 7420738134810 ∧ sTf (pasr (n + 1)) n / 7420738134810 ≤ 1000000000000000000 ∧ -9000000000000000000 ≤ qtN n (sTf (pasr (n + 1)) n) ∧ qtN n (sTf (pasr (n + 1)) n) ≤ 9000000000000000000 := by decide +kernel
theorem C_quotesE {w : xW} (hC : CU w) {n : Nat} (n1 : 1 ≤ n) (hn : n < 39) : xCall 192 [.ref 39, .ref 40, .int (jI (n : Int)), .long (jL (-(sT rE (n + 1) n / uA))), .long (jL (-(sT rE (n + 1) n % uA))), .int (jI ((n : Int) + 1))] w (none, l3 w 40 n (rW n) (rA n) (rB n)) := by
  obtain ⟨q1, q2, q3, q4, q5⟩ := qt_c n hn n1
  rw [← sT_f (n + 1) n (by omega)] at q1 q2 q3 q4 q5
  generalize sT rE (n + 1) n = T at q1 q2 q3 q4 q5 ⊢
  have m0 := Int.emod_nonneg T (b := 7420738134810) (by decide)
  have m1 := Int.emod_lt_of_pos T (b := 7420738134810) (by decide)
  have d1 := C_downByu (a := -(T % 7420738134810)) (b := 7420738134810) ⟨by omega, by omega⟩ s64 (by decide) w hC
  have d2 := C_downByu (a := -(T / 7420738134810) + (-(T % 7420738134810)) / 7420738134810) (b := (n : Int) + 1) ⟨by omega, by omega⟩ s64 (by omega) w hC
  have e1 : qtR n T = rW n := congrArg Prod.fst q1
  have e2 : prA (qtN n T) (7420738134810 * ((n : Int) + 1)) = rA n := congrArg (fun e : Int × Int × Int => e.2.1) q1
  have e3 : prB (qtN n T) (7420738134810 * ((n : Int) + 1)) = rB n := congrArg (fun e : Int × Int × Int => e.2.2) q1
  have lp := C_laysProperu hC (a1 := 40) (N := 117) (n := (n : Int)) (x := qtR n T) (a := qtN n T) (b := 7420738134810 * ((n : Int) + 1)) hC.l40 (by decide) (by omega) (by omega) q4 q5 (by omega) (by omega)
  rw [e1, e2, e3, show (n : Int).toNat = n from Int.toNat_natCast n, ← e1] at lp
  rw [← e1]
  exact Z_192u hC ⟨_, _, d1, hC, _, _, d1, hC, s32, _, _, d2, hC, _, lp, l3_Cu hC, rfl⟩
theorem L_188e {w0 : xW} (h43 : ∀ n k, n < 42 → k < 40 → rL w0 43 (40 * n + k) (cb n k)) : ∀ (d n : Nat) (w : xW), n + d = 39 → 1 ≤ n → CU w → xsame [39, 40] w0 w → (∀ j z, j ≠ 8 → j ≠ 9 → fI w0 39 12 j z → fI w 39 12 j z) → (∀ k, k < n → rL w 40 (3 * k) (rW k) ∧ rL w 40 (3 * k + 1) (rA k) ∧ rL w 40 (3 * k + 2) (rB k)) →
    ∃ w', xGo 188 418 [some (.ref 39), some (.int (jI (n : Int))), none, none] [] w (none, w') ∧ CU w' ∧ xsame [39, 40] w0 w' ∧ (∀ j z, j ≠ 8 → j ≠ 9 → fI w0 39 12 j z → fI w' 39 12 j z) ∧ ∀ k, k < 39 → rL w' 40 (3 * k) (rW k) ∧ rL w' 40 (3 * k + 1) (rA k) ∧ rL w' 40 (3 * k + 2) (rB k) := by
  intro d
  induction d with
  | zero =>
    intro n w hd n1 hC hs hF R
    have e : n = 39 := by omega
    subst e
    exact ⟨w, S_188_418 ⟨fun _ => rfl, fun q => absurd ((jI_lt (a := 38) (b := (39 : Nat)) s32 s32).mpr (by omega)) q⟩, hC, hs, hF, R⟩
  | succ d ih =>
    intro n w hd n1 hC hs hF R
    obtain ⟨w1, a1, a2, a3, a4, a5, a6⟩ := C_addsUpu (a1 := 40) (by decide) (E := rE) (N := (n : Int) + 1) (last := (n : Int) - 1) (by omega) (by omega) (by omega) (by omega) hC (fun k hk => R k (by omega)) (fun k hk => by
      have h1 := rA_le k (by omega)
      have h2 := rB_pos k (by omega)
      exact ⟨h1.1, h1.2, h2.2, rB_dvd k (by omega)⟩) (fun k hk => by
      rw [show ((n : Int) + 1).toNat = n + 1 by omega]
      exact (h43 (n + 1) k (by omega) (by omega)).sm hs (by decide))
    rw [show ((n : Int) + 1).toNat = n + 1 by omega, show ((n : Int) - 1 + 1).toNat = n by omega] at a5 a6
    have qt := C_quotesE a2 n1 (by omega)
    have s2 : xsame [40] w1 (l3 w1 40 n (rW n) (rA n) (rB n)) := l3_sm
    obtain ⟨w2, b1, b2, b3, b4, b5⟩ := ih (n + 1) (l3 w1 40 n (rW n) (rA n) (rB n)) (by omega) (by omega) (l3_Cu a2) (hs.trans ((a3.mono (by decide)).trans (s2.mono (by decide)))) (fun j z j8 j9 h => ((a4 j z j8 j9 (hF j z j8 j9 h)).sm s2 (by decide))) (fun k hk => by
      by_cases z : k = n
      · subst z
        exact l3_get a2.l40 (by decide) (by omega)
      · have r := R k (by omega)
        exact ⟨l3_ne (r.1.sm a3 (by decide)) (by omega) (by omega) (by omega), l3_ne (r.2.1.sm a3 (by decide)) (by omega) (by omega) (by omega), l3_ne (r.2.2.sm a3 (by decide)) (by omega) (by omega) (by omega)⟩)
    obtain ⟨fs1, h1, h11⟩ := hC.m39
    obtain ⟨fs7, h7, h71⟩ := a2.m39
    refine ⟨w2, S_188_418 ⟨fun q => absurd ((jI_lt (a := 38) s32 s32).mp q) (by omega), fun _ => ?_⟩, b2, b3, b4, b5⟩
    rw [show (1 : Int32) = jI 1 from rfl, jI_add, jI_sub]
    refine ⟨_, h1, _, h11, _, a1, _, h7, _, h71, _, a5.fs h7, _, a6.fs h7, ?_⟩
    rw [jL_neg, jL_neg]
    exact ⟨_, qt, fun v17 e17 => by rw [e17]; exact b1⟩
theorem rL.app {w e : xW} {a i : Nat} {z : Int} (h : rL w a i z) : rL (w ++ e) a i z := by
  obtain ⟨n, f, h1, h2⟩ := h
  exact ⟨n, f, by rw [List.getElem?_append_left (List.getElem?_eq_some_iff.mp h1).1]; exact h1, h2⟩
theorem K_model {p : xW} (hp : p.length = 39) (hC : CT p) : ∃ w, xCall 188 [.ref 39] (p ++ [.inr (12, xvs.getD 12 [])]) (none, w) ∧ CU w ∧ w.length = 67 ∧ (∀ i, i < 39 → w[i]? = p[i]?) ∧ fI w 39 12 4 (-1) ∧ fI w 39 12 7 46 ∧ fI w 39 12 13 0 ∧ (∀ k, k < 39 → rL w 40 (3 * k) (rW k) ∧ rL w 40 (3 * k + 1) (rA k) ∧ rL w 40 (3 * k + 2) (rB k)) ∧ (∀ n k, n < 42 → k < 40 → rL w 43 (40 * n + k) (cb n k)) ∧ (∃ f, w[44]? = some (aI 46 f) ∧ ∀ j, j < 46 → f j = xpr j) ∧ m30 w := by
  have C0 := HM_C hp hC
  have h39 : (HM p)[39]? = some (mMain 0 (-1) 0 0 0 0 0) := (apm hp (k := 0)).trans rfl
  have h43 : (HM p)[43]? = some (aL 1680 zL) := (apm hp (k := 4)).trans rfl
  have h44 : (HM p)[44]? = some (aI 46 zI) := (apm hp (k := 5)).trans rfl
  have h53 : (HM p)[53]? = some (aI 5 f30) := (apm hp (k := 14)).trans rfl
  obtain ⟨g, g1, g2⟩ := L_188a (fs := _) rfl 42 0 (HM p) zL (by omega) h39 h43 PC_0
  have s1 : xsame [43] (HM p) ((HM p).set 43 (aL 1680 g)) := xsame.set (by decide)
  have C1 : CU ((HM p).set 43 (aL 1680 g)) := C0.set ⟨_, rfl⟩
  have i39 := s1.get (by decide) h39
  have i44 := s1.get (by decide) h44
  have i43 : ((HM p).set 43 (aL 1680 g))[43]? = some (aL 1680 g) := set_get h43
  obtain ⟨w2, f2, a1, a2, a3, a4, a5⟩ := L_188c 198 2 _ zI (by omega) (by omega) (by rw [pcn_2]; exact i39) i44 (fun j hj => by rw [pcn_2] at hj; omega)
  have C2 := C1.sm a1 a2 a3
  have j43 := a1.get (by decide) i43
  have ly := C_laysu C2 (a := 40) (N := 117) (n := 0) (x := 1) (y := 0) (z := 1) C2.l40 (by decide) (by decide) (by decide)
  have s3 : xsame [40] w2 (l3 w2 40 0 1 0 1) := l3_sm
  have r43 : ∀ n k, n < 42 → k < 40 → rL (l3 w2 40 0 1 0 1) 43 (40 * n + k) (cb n k) := fun n k hn hk => by
    refine rL_of (s3.get (by decide) j43) (by decide) (by omega) ?_
    rw [Nat.mul_comm 40 n]
    exact PC_get g1 hn hk (Or.inl hn)
  have gt := l3_get (a := 40) (n := 0) (x := 1) (y := 0) (z := 1) C2.l40 (by decide) (by decide)
  obtain ⟨w4, b1, b2, b3, b4, b5⟩ := L_188e r43 38 1 (l3 w2 40 0 1 0 1) (by omega) (by omega) (l3_Cu C2) xsame.rf (fun _ _ _ _ h => h) (fun k hk => by
    rw [show k = 0 by omega]
    exact gt)
  have hl : (HM p).length = 67 := by
    unfold HM
    rw [List.length_append, hp]
    rfl
  have F : ∀ j z, j ≠ 8 → j ≠ 9 → (match mMain 0 (-1) 46 0 0 0 0 with | .inr (_, fs) => fs[j]? | _ => none) = some (.int (jI z)) → fI w4 39 12 j z := fun j z j8 j9 hz => b4 j z j8 j9 ⟨_, s3.get (by decide) a2, hz⟩
  refine ⟨w4, K_188 hp (g2 _ (a5 _ ⟨_, ly, b1⟩)), b2, ?_, fun i hi => ?_, F 4 (-1) (by decide) (by decide) rfl, F 7 46 (by decide) (by decide) rfl, F 13 0 (by decide) (by decide) rfl, b5, fun n k hn hk => (r43 n k hn hk).sm b3 (by decide), ⟨f2, b3.get (by decide) (s3.get (by decide) a3), a4⟩, ⟨f30, b3.get (by decide) (s3.get (by decide) (a1.get (by decide) (s1.get (by decide) h53))), rfl, rfl, rfl, rfl, rfl⟩⟩
  · rw [b3.1, s3.1, a1.1, s1.1, hl]
  · have n1 : i ∉ [39, 40] := by simp; omega
    have n2 : i ∉ [40] := by simp; omega
    have n3 : i ∉ [39, 44] := by simp; omega
    have n4 : i ∉ [43] := by simp; omega
    rw [b3.2 i n1, s3.2 i n2, a1.2 i n3, s1.2 i n4]
    unfold HM
    rw [List.getElem?_append_left (by omega)]
/-- the start: both constructors and the law's row -/
theorem K_start : ∃ w1 w2 : xW, xCall 0 [.ref 0] [.inr (0, xvs.getD 0 [])] (none, w1) ∧ w1.length = 39 ∧ xCall 188 [.ref 39] (w1 ++ [.inr (12, xvs.getD 12 [])]) (none, w2) ∧ w2.length = 67 ∧ cst rE (-1) (fun _ => 0) [] (w2 ++ [aL 1 zL]) ∧ mst rE (-1) (fun _ => 0) [] (w2 ++ [aL 1 zL]) := by
  obtain ⟨w1, gc, a1, a2, a3, a4, ⟨g1, g2, g3, a5⟩, a6⟩ := K_class
  obtain ⟨w2, b1, b2, b3, b4, b5, b6, b7, b8, b9, ⟨f44, b10, b10'⟩, b11⟩ := K_model a4 a3
  have up : ∀ (i : Nat) (o : xC), w2[i]? = some o → (w2 ++ [aL 1 zL])[i]? = some o := fun i o h => by
    rw [List.getElem?_append_left (List.getElem?_eq_some_iff.mp h).1]
    exact h
  have up1 : ∀ (i : Nat) (o : xC), i < 39 → w1[i]? = some o → (w2 ++ [aL 1 zL])[i]? = some o := fun i o hi h => up i o (by rw [b4 i hi]; exact h)
  have hC : CS (w2 ++ [aL 1 zL]) := by
    refine ⟨by rw [List.length_append, b3]; decide, fun i hi => ?_⟩
    by_cases q : i < 67
    · obtain ⟨c, h1, h2⟩ := b2.2 i q
      exact ⟨c, up i c h1, h2⟩
    · have e : i = 67 := by omega
      subst e
      refine ⟨aL 1 zL, ?_, _, rfl⟩
      rw [List.getElem?_append_right (by omega), b3]
      rfl
  have rU : ∀ (a i : Nat) (z : Int), a < 39 → rL w1 a i z → rL (w2 ++ [aL 1 zL]) a i z := fun a i z ha h => by
    obtain ⟨n, f, h1, h2⟩ := h
    exact ⟨n, f, up1 a _ ha h1, h2⟩
  have H : ∀ (i : Nat) (o : xC), i < 39 → i ∉ [4, 5, 6, 8, 9, 10, 36] → (HC0 gc g1 g2 g3)[i]? = some o → (w2 ++ [aL 1 zL])[i]? = some o := fun i o hi hn h => up1 i o hi (a5.get hn h)
  have iU : ∀ (j : Nat) (z : Int), fI w2 39 12 j z → fI (w2 ++ [aL 1 zL]) 39 12 j z := fun j z h => by
    obtain ⟨fs, h1, h2⟩ := h
    exact ⟨fs, up 39 _ h1, h2⟩
  refine ⟨w1, w2, a1, a4, b1, b3, ?_, ?_⟩
  · refine cst_of hC ⟨_, H 0 _ (by decide) (by decide) rfl, rfl⟩ (fun n k hn hk => ?_) (fun n hn => ?_) (fun n hn => by omega) (fun n hn => by omega) ⟨_, H 24 _ (by decide) (by decide) rfl, rfl⟩ (fun k q hq => by simp at hq) ?_ ?_
    · exact rL_of (H 2 _ (by decide) (by decide) rfl) (by decide) (by omega) (PC_get a2 hn hk (Or.inl hn))
    · have r := a6 n hn
      exact ⟨rU _ _ _ (by decide) r.1, rU _ _ _ (by decide) r.2.1, rU _ _ _ (by decide) r.2.2⟩
    · exact ⟨0, 0, zL, H 28 _ (by decide) (by decide) rfl, H 29 _ (by decide) (by decide) rfl, Or.inl rfl⟩
    · exact ⟨0, zI, zI, by decide, H 31 _ (by decide) (by decide) rfl, H 32 _ (by decide) (by decide) rfl, H 33 _ (by decide) (by decide) rfl, fun k q hq => by simp [prsS] at hq⟩
  · refine mst_of hC (iU 4 _ b5) (iU 7 _ b6) (iU 13 _ b7) (fun n hn => ?_) (fun n hn => by omega) (fun n hn => by omega) (fun n k hn hk => (b9 n k hn hk).app) (fun j hj => ?_) (fun k q hq => by simp at hq) ?_
    · have r := b8 n hn
      exact ⟨r.1.app, r.2.1.app, r.2.2.app⟩
    · exact rI_of (up 44 _ b10) (by decide) hj (by rw [b10' j hj, xpr_z j hj])
    · obtain ⟨f, h1, h2⟩ := b11
      exact ⟨f, up 53 _ h1, h2⟩
