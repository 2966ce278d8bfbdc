/-! the calls quadratic and number -/
section Q7
variable {c : Nat} {E : eT} {t : Int} {ws : Nat → Int} {me : memT} {w : xW}
def qdV (p n a : Nat) : Int := evP (hmC n (p : Int) (fun j => scV (rE j) 30)) (a : Int) (n + 1) 0
def qdT (p n : Nat) : Nat → Int
  | 0 => 0
  | a + 1 => qdT p n a + (if a = 0 then 0 else sgS a p * qdV p n a)
theorem sc30 : ∀ j : Nat, j < 5 → -30 ≤ scV (rE j) 30 ∧ scV (rE j) 30 ≤ 30 := by decide +kernel
theorem qdV_b {p n a : Nat} (hp : p ≤ 199) (hn : n ≤ 4) (ha : a ≤ 199) : -752754816480 ≤ qdV p n a ∧ qdV p n a ≤ 752754816480 := by
  have k := evP_b (co := hmC n (p : Int) (fun j => scV (rE j) 30)) (u := fun k => (cb n k : Nat) * (199 : Int) ^ (n - k)) (a := (a : Int)) (A := 199) (M := 30) (by decide) (fun k => hmC_b (by decide) (by omega) (by omega) (fun j hj => sc30 j (by omega)) k) (fun k => Int.mul_nonneg (by omega) (pw_le (b := 199) (B := 199) (by decide) (by decide) _).1) (by omega) (by omega) (n + 1) 0
  have v := q4_c n (by omega)
  unfold qdV
  omega
theorem qdT_b {p n : Nat} (hp : p ≤ 199) (hn : n ≤ 4) : ∀ a : Nat, a ≤ 200 → -(752754816480 * a) ≤ qdT p n a ∧ qdT p n a ≤ 752754816480 * a
  | 0, _ => ⟨show -(752754816480 * (0 : Int)) ≤ 0 by decide, show (0 : Int) ≤ 752754816480 * 0 by decide⟩
  | a + 1, ha => by
    have i := qdT_b hp hn a (by omega)
    have v := qdV_b hp hn (a := a) (by omega)
    have s := sgS_b a p
    have m := mul_ab (a := sgS a p) (A := 1) (b := qdV p n a) (B := 752754816480) s.1 s.2 v.1 v.2
    show -(752754816480 * ((a + 1 : Nat) : Int)) ≤ qdT p n a + (if a = 0 then 0 else sgS a p * qdV p n a) ∧ qdT p n a + (if a = 0 then 0 else sgS a p * qdV p n a) ≤ 752754816480 * ((a + 1 : Nat) : Int)
    split
    · exact ⟨by omega, by omega⟩
    · exact ⟨by omega, by omega⟩
theorem sgS_p : ∀ p ∈ prN, sgS p p = 0 := by decide +kernel
def qdS (p n x : Int) : Int := if isPr p ∧ (1 ≤ n ∧ n ≤ 4) ∧ (0 ≤ x ∧ x ≤ 2) then frX (frE (qdT p.toNat n.toNat p.toNat) (30 * p)) x else lNO
theorem L_quad (h : cst E t ws me w) {p n : Nat} {x : Int} (hp : p ∈ prN) (n1 : 1 ≤ n) (n4 : n ≤ 4) (hx : 0 ≤ x ∧ x ≤ 2) : ∀ (k a : Nat), a + k = p + 1 → 1 ≤ a →
    ∃ w', xGo 144 34 [some (.ref 0), some (.int (jI (p : Int))), some (.int (jI (n : Int))), some (.int (jI x)), some (.long (jL (qdT p n a))), none, some (.int (jI (a : Int)))] [] w (some (.long (jL (frX (frE (qdT p n p) (30 * (p : Int))) x))), w') ∧ cst E t ws me w' ∧ xsame [36] w w' := by
  have pb := prN_b p hp
  intro k
  induction k with
  | zero =>
    intro a ha a1
    have e : a = p + 1 := by omega
    subst e
    have eT : qdT p n (p + 1) = qdT p n p := by
      show qdT p n p + (if p = 0 then 0 else sgS p p * qdV p n p) = _
      rw [if_neg (by omega), sgS_p p hp, Int.zero_mul, Int.add_zero]
    rw [eT]
    have b := qdT_b (p := p) (n := n) (by omega) n4 p (by omega)
    have bc := bc36 h.1 (nw := 0) (na := qdT p n p) (nb := 30 * (p : Int)) (by omega) ⟨by omega, by omega⟩ ⟨by omega, by omega⟩
    rw [Int.zero_mul, Int.zero_add] at bc
    have f := fw h.1 (frE (qdT p n p) (30 * (p : Int))).1 (frE (qdT p n p) (30 * (p : Int))).2.1 (frE (qdT p n p) (30 * (p : Int))).2.2
    exact ⟨_, Z_144_34 h.1 ⟨s32, s32, fun _ => ⟨_, bc, f.1, _, _, td36 hx f.2.1, f.1, rfl⟩, fun q => by omega⟩, h.f36 _ _ _, f.2.2⟩
  | succ k ih =>
    intro a ha a1
    obtain ⟨w', g1, g2, g3⟩ := ih (a + 1) (by omega) (by omega)
    have e : qdT p n (a + 1) = qdT p n a + sgS a p * qdV p n a := by
      show qdT p n a + (if a = 0 then 0 else sgS a p * qdV p n a) = _
      rw [if_neg (by omega)]
    rw [e] at g1
    have s := sgS_b a p
    have hm := C_homog h (e := 7) (a := (a : Int)) (b := (p : Int)) (S := 30) (n := n) (by omega) (sc := fun j => scV (rE j) 30) (ko_7 h.1) (fun j hj => by
      have s := C_scaledR h (n := (j : Int)) (S := 30) (by omega) (by omega) (by decide) s64
      rw [Int.toNat_natCast] at s
      exact s)
    exact ⟨w', Z_144_34 h.1 ⟨s32, s32, fun q => by omega, fun _ => ⟨_, _, C_signOf hp (by omega) w h.1, h.1, s32, _, _, hm, h.1, g1⟩⟩, g2, g3⟩
theorem c_quadratic {p n x : Int} (hp : in32 p) (hn : in32 n) (hx : in32 x) : cAns E t ws me E t ws me 144 [.int (jI p), .int (jI n), .int (jI x)] (.long (jL (qdS p n x))) := by
  intro w h
  by_cases v : isPr p ∧ (1 ≤ n ∧ n ≤ 4) ∧ (0 ≤ x ∧ x ≤ 2)
  · rw [show qdS p n x = _ from if_pos v]
    obtain ⟨w', g1, g2, g3⟩ := L_quad h (p := p.toNat) (n := n.toNat) v.1.2 (by omega) (by omega) v.2.2 p.toNat 1 (by omega) (by decide)
    rw [Int.toNat_of_nonneg v.1.1, Int.toNat_of_nonneg (show 0 ≤ n by omega)] at g1
    have e1 : qdT p.toNat n.toNat 1 = 0 := rfl
    rw [e1] at g1
    exact ⟨w', Z_144 h.1 ⟨_, _, _, C_isPrime hp h.1.noP, h.1, fun q => absurd v.1 q, fun _ => ⟨hn, fun q => by omega, fun _ => ⟨fun q => by omega, fun _ => ⟨_, _, _, C_isPart hx w, h.1, fun _ => g1, fun q => absurd v.2.2 q⟩⟩⟩⟩, g2, g3.mono (by decide)⟩
  · rw [show qdS p n x = lNO from if_neg v]
    exact ⟨w, Z_144 h.1 ⟨_, _, _, C_isPrime hp h.1.noP, h.1, fun _ => rfl, fun q1 => ⟨hn, fun _ => rfl, fun q2 => ⟨fun _ => rfl, fun q3 => ⟨_, _, _, C_isPart hx w, h.1, fun q4 => absurd ⟨q1, ⟨q2, q3⟩, q4⟩ v, fun _ => rfl⟩⟩⟩⟩, h, xsame.rf⟩
theorem t30_c : scV (rE 0) 30 = 30 ∧ scV (rE 1) 30 = -15 ∧ scV (rE 2) 30 = 5 ∧ scV (rE 3) 30 = 0 ∧ scV (rE 4) 30 = -1 := by decide +kernel
theorem M_t30 (h : mst E t ws me w) {j : Nat} (hj : j ≤ 4) : rI w 53 j (scV (rE j) 30) := by
  obtain ⟨a0, a1, a2, a3, a4⟩ := h.t30
  obtain ⟨b0, b1, b2, b3, b4⟩ := t30_c
  rcases (by omega : j = 0 ∨ j = 1 ∨ j = 2 ∨ j = 3 ∨ j = 4) with r | r | r | r | r <;> subst r
  · rw [b0]; exact a0
  · rw [b1]; exact a1
  · rw [b2]; exact a2
  · rw [b3]; exact a3
  · rw [b4]; exact a4
theorem L_mquadIn (h : mst E t ws me w) {p n a : Nat} {x T : Int} (hp : p ∈ prN) (n1 : 1 ≤ n) (n4 : n ≤ 4) (a1 : 1 ≤ a) (ap : a < p) {r : Option Value × xW} (K : xGo 267 41 [some (.ref 39), some (.int (jI (p : Int))), some (.int (jI (n : Int))), some (.int (jI x)), some (.long (jL (T + sgS a p * qdV p n a))), none, some (.int (jI ((a : Int) + 1))), none, none, none] [] w r) : ∀ (k i : Nat) (S : Int), i + k = n + 1 → S + (a : Int) ^ i * evP (hmC n (p : Int) (fun j => scV (rE j) 30)) (a : Int) k i = qdV p n a →
    xGo 267 53 [some (.ref 39), some (.int (jI (p : Int))), some (.int (jI (n : Int))), some (.int (jI x)), some (.long (jL T)), none, some (.int (jI (a : Int))), some (.long (jL S)), none, some (.int (jI (i : Int)))] [] w r := by
  have pb := prN_b p hp
  intro k
  induction k with
  | zero =>
    intro i S hi hS
    have e : S = qdV p n a := by
      have : evP (hmC n (p : Int) (fun j => scV (rE j) 30)) (a : Int) 0 i = 0 := rfl
      rw [this, Int.mul_zero] at hS
      omega
    rw [e]
    have s := sgS_b a p
    exact Z_267_53 h.1 ⟨s32, s32, fun _ => ⟨_, _, C_msignOf hp ap w h.1, h.1, s32, K⟩, fun q => by omega⟩
  | succ k ih =>
    intro i S hi hS
    have g := ih (i + 1) _ (by omega) (ev_st hS)
    have rc := h.cb (n := n) (k := i) (by omega) (by omega)
    rw [show 40 * n + i = (40 * (n : Int) + (i : Int)).toNat by omega] at rc
    have t30 := M_t30 h (j := n - i) (by omega)
    rw [show n - i = ((n : Int) - (i : Int)).toNat by omega] at t30
    have sb := sc30 (n - i) (by omega)
    rw [show n - i = ((n : Int) - (i : Int)).toNat by omega] at sb
    have p1 := C_raised h.1 (a := (a : Int)) (n := (i : Int)) (by omega) (by omega)
    rw [Int.toNat_natCast] at p1
    have p2 := C_raised h.1 (a := (p : Int)) (n := (n : Int) - (i : Int)) (by omega) (by omega)
    have e2 : S + ((cb n i : Nat) : Int) * scV (rE ((n : Int) - (i : Int)).toNat) 30 * (a : Int) ^ i * (p : Int) ^ ((n : Int) - (i : Int)).toNat = S + hmC n (p : Int) (fun j => scV (rE j) 30) i * (a : Int) ^ i := by
      congr 1
      show _ = ((cb n i : Nat) : Int) * scV (rE (n - i)) 30 * (p : Int) ^ (n - i) * (a : Int) ^ i
      rw [show n - i = ((n : Int) - (i : Int)).toNat by omega]
      ac_rfl
    rw [← e2] at g
    exact Z_267_53 h.1 ⟨s32, s32, fun q => by omega, fun _ => ⟨by omega, _, rc, by omega, _, t30, s32, s32, _, _, p1, h.1, s32, _, _, p2, h.1, g⟩⟩
theorem L_mquad (h : mst E t ws me w) {p n : Nat} {x : Int} (hp : p ∈ prN) (n1 : 1 ≤ n) (n4 : n ≤ 4) (hx : 0 ≤ x ∧ x ≤ 2) : ∀ (k a : Nat), a + k = p → 1 ≤ a →
    xGo 267 41 [some (.ref 39), some (.int (jI (p : Int))), some (.int (jI (n : Int))), some (.int (jI x)), some (.long (jL (qdT p n a))), none, some (.int (jI (a : Int))), none, none, none] [] w (some (.long (jL (frX (frE (qdT p n p) (30 * (p : Int))) x))), l3 w 62 0 (frE (qdT p n p) (30 * (p : Int))).1 (frE (qdT p n p) (30 * (p : Int))).2.1 (frE (qdT p n p) (30 * (p : Int))).2.2) := by
  have pb := prN_b p hp
  intro k
  induction k with
  | zero =>
    intro a ha a1
    have e : a = p := by omega
    subst e
    have b := qdT_b (p := a) (n := n) (by omega) n4 a (by omega)
    obtain ⟨g1, g2, g3, g4⟩ := dF62 h.1 (N := qdT a n a) (D := 30 * (a : Int)) hx (by omega) (by omega) (by omega) (by omega)
    exact Z_267_41 h.1 ⟨s32, s32, fun _ => ⟨_, _, g1, h.1, _, g2, g4, hx.1, _, g3, rfl⟩, fun q => by omega⟩
  | succ k ih =>
    intro a ha a1
    have g := ih (a + 1) (by omega) (by omega)
    have e : qdT p n (a + 1) = qdT p n a + sgS a p * qdV p n a := by
      show qdT p n a + (if a = 0 then 0 else sgS a p * qdV p n a) = _
      rw [if_neg (by omega)]
    rw [e] at g
    have l := L_mquadIn h hp n1 n4 a1 (by omega) (x := x) (T := qdT p n a) g (n + 1) 0 0 (by omega) (by rw [Int.pow_zero, Int.one_mul, Int.zero_add]; rfl)
    exact Z_267_41 h.1 ⟨s32, s32, fun q => by omega, fun _ => l⟩
theorem m_quadratic {p n x : Int} (hp : in32 p) (hn : in32 n) (hx : in32 x) : mAns E t ws me E t ws me 267 [.int (jI p), .int (jI n), .int (jI x)] (.long (jL (qdS p n x))) := by
  intro w h0
  have h := h0.p0 (v := jI 0)
  have s0 : xsame mAll w (pF w 39 0 (.int (jI 0))) := sm_pF (by decide)
  by_cases v : isPr p ∧ (1 ≤ n ∧ n ≤ 4) ∧ (0 ≤ x ∧ x ≤ 2)
  · rw [show qdS p n x = _ from if_pos v]
    have pb := prN_b _ v.1.2
    have g := L_mquad h (p := p.toNat) (n := n.toNat) v.1.2 (by omega) (by omega) v.2.2 (p.toNat - 1) 1 (by omega) (by decide)
    rw [Int.toNat_of_nonneg v.1.1, Int.toNat_of_nonneg (show 0 ≤ n by omega)] at g
    have e1 : qdT p.toNat n.toNat 1 = 0 := rfl
    rw [e1] at g
    refine ⟨l3 (pF w 39 0 (.int (jI 0))) 62 0 (frE (qdT p.toNat n.toNat p.toNat) (30 * p)).1 (frE (qdT p.toNat n.toNat p.toNat) (30 * p)).2.1 (frE (qdT p.toNat n.toNat p.toNat) (30 * p)).2.2, Z_267 h0.1 (fun w3 e _ => ?_), h.same1 l3_sm (l3_C h.1), s0.trans (l3_sm.mono (by decide))⟩
    subst e
    exact ⟨_, _, _, C_misPrime h hp, h.1, fun q => absurd v.1 q, fun _ => ⟨_, _, _, C_isIn hn s32 s32 _, h.1, fun q => absurd v.2.1 q, fun _ => ⟨_, _, _, C_isIn hx s32 s32 _, h.1, fun _ => g, fun q => absurd v.2.2 q⟩⟩⟩
  · rw [show qdS p n x = lNO from if_neg v]
    refine ⟨_, Z_267 h0.1 (fun w3 e _ => ?_), h, s0⟩
    subst e
    exact ⟨_, _, _, C_misPrime h hp, h.1, fun _ => rfl, fun q1 => ⟨_, _, _, C_isIn hn s32 s32 _, h.1, fun _ => rfl, fun q2 => ⟨_, _, _, C_isIn hx s32 s32 _, h.1, fun q3 => absurd ⟨q1, q2, q3⟩ v, fun _ => rfl⟩⟩⟩
/-! number -/
def nuS (E : eT) (t n x : Int) : Int := if 0 ≤ x ∧ x ≤ 2 then (if 0 ≤ n ∧ n ≤ t then frX (E n.toNat) x else lNO) else 0
theorem c_number (ok : okS c E t ws me) {n x : Int} (hn : in32 n) (hx : in32 x) (v : 0 ≤ x ∧ x ≤ 2) : cAns E t ws me E t ws me 187 [.int (jI n), .int (jI x)] (.long (jL (nuS E t n x))) := by
  intro w h
  have ht := ok.2.2.1
  rw [show nuS E t n x = _ from if_pos v]
  have n3 : ¬ bz (0 ≤ x ∧ x ≤ 2) = 0 := by rw [bz_t v]; decide
  by_cases a : 0 ≤ n ∧ n ≤ t
  · rw [if_pos a]
    have f := fw h.1 (E n.toNat).1 (E n.toNat).2.1 (E n.toNat).2.2
    have h1 := h.f36 (E n.toNat).1 (E n.toNat).2.1 (E n.toNat).2.2
    exact ⟨_, E_187 (S_187_0 ⟨_, _, C_isPart hx w, fun _ => ⟨_, h.2.1, _, _, C_isLaid h ok hn, fun _ => ⟨_, h.2.1, _, rfl, _, rfl, _, h.1.e12, _, C_fetchF h ok a.1 a.2, _, h1.2.1, _, rfl, _, f.2.1, _, _, td36 v f.2.1, rfl⟩, fun q => absurd (by rw [bz_t a]; decide) q⟩, fun q => absurd n3 q⟩), h1, f.2.2.mono (by decide)⟩
  · rw [if_neg a]
    exact ⟨w, E_187 (S_187_0 ⟨_, _, C_isPart hx w, fun _ => ⟨_, h.2.1, _, _, C_isLaid h ok hn, fun q => absurd (bz_f a) q, fun _ => rfl⟩, fun q => absurd n3 q⟩), h, xsame.rf⟩
theorem m_number (ok : okS c E t ws me) {n x : Int} (hn : in32 n) (hx : in32 x) : ∀ w, mst E t ws me w → ∃ w1, xCall 218 [.ref 39, .int (jI n), .int (jI x)] w (some (.long (jL (nuS E t n x))), w1) ∧ mst E t ws me w1 ∧ xsame mAll w w1 ∧ fI w1 39 12 0 (if 0 ≤ x ∧ x ≤ 2 then 0 else 1) := by
  intro w h0
  have h := h0.p0 (v := jI 0)
  have s0 : xsame mAll w (pF w 39 0 (.int (jI 0))) := sm_pF (by decide)
  have ht1 := ok.2.1
  have ht := ok.2.2.1
  by_cases v : 0 ≤ x ∧ x ≤ 2
  · rw [show nuS E t n x = _ from if_pos v, if_pos v]
    refine ⟨_, Z_218 h0.1 (fun w3 e _ => ?_), h, s0, (kf_39_0 h0.1).putI⟩
    subst e
    refine ⟨_, _, _, C_isIn hx s32 s32 _, h.1, fun _ => ⟨_, h.top, _, _, _, C_isIn hn s32 s32 _, h.1, fun q => ?_, fun q => ⟨by omega, _, M_nwx h ht q.1 q.2 v, ?_⟩⟩, fun q => absurd v q⟩
    · rw [if_neg q]; rfl
    · rw [if_pos q]
  · rw [show nuS E t n x = 0 from if_neg v, if_neg v]
    have h2 := h.p0 (v := jI 1)
    refine ⟨_, Z_218 h0.1 (fun w3 e _ => ?_), h2, s0.trans (sm_pF (by decide)), (kf_39_0 h.1).putI⟩
    subst e
    exact ⟨_, _, _, C_isIn hx s32 s32 _, h.1, fun q => absurd q v, fun _ => ⟨_, _, Z_219 h.1 (fun w2 e2 _ => by rw [e2]), h2.1, rfl⟩⟩
end Q7
