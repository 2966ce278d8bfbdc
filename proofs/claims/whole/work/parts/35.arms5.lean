/-! memo, count -/
abbrev kpS (E : eT) (q : Int × Int × Int) : Prop := resS (E q.1.toNat) q.2.1.toNat = q.2.2
section A5
variable {c : Nat} {E : eT} {t : Int} {ws : Nat → Int} {me : memT} {w : xW}
theorem C_entryOf (h : cst E t ws me w) (ok : okS c E t ws me) {k : Nat} {q : Int × Int × Int} (hq : me[k]? = some q) : xCall 94 [.ref 24, .int (jI k)] w (some (.int (jI q.1)), w) ∧ xCall 95 [.ref 24, .int (jI k)] w (some (.int (jI q.2.1)), w) ∧ xCall 96 [.ref 24, .int (jI k)] w (some (.int (jI q.2.2)), w) := by
  have hl := ok.2.2.2.2.2.1
  have hk : k < me.length := (List.getElem?_eq_some_iff.mp hq).1
  have m := h.mm hl hq
  have f := C_mfits h.1 (z := (k : Int)) s32 (x := me.length) s32 h.mz
  exact ⟨Z_94 h.1 ⟨_, _, _, f, h.1, fun q => absurd (by omega) q, fun _ => ⟨by omega, _, by rw [Int.toNat_natCast]; exact m.1, rfl⟩⟩, Z_95 h.1 ⟨_, _, _, f, h.1, fun q => absurd (by omega) q, fun _ => ⟨by omega, _, by rw [Int.toNat_natCast]; exact m.2.1, rfl⟩⟩, Z_96 h.1 ⟨_, _, _, f, h.1, fun q => absurd (by omega) q, fun _ => ⟨by omega, _, by rw [Int.toNat_natCast]; exact m.2.2, rfl⟩⟩⟩
theorem C_holdsStill (h : cst E t ws me w) (ok : okS c E t ws me) {k : Nat} {q : Int × Int × Int} (hq : me[k]? = some q) : xCall 97 [.ref 0, .int (jI k)] w (some (.int (bz (kpS E q))), w) := by
  obtain ⟨e1, e2, e3⟩ := C_entryOf h ok hq
  obtain ⟨b1, b2, b3, b4, b5, b6, b7, b8⟩ := ok_m ok hq
  obtain ⟨p, hp, ep, g1, g2⟩ := isPr_nat b6
  obtain ⟨n, en⟩ := Int.eq_ofNat_of_zero_le b4
  have r := C_residueNow h ok (n := n) (p := p) (by omega) hp
  have rb := resS_le (e := E n) (p := p) (by omega)
  rw [← en, ← ep] at r
  have e : resS (E n) p = resS (E q.1.toNat) q.2.1.toNat := by rw [en, ep, Int.toNat_natCast, Int.toNat_natCast]
  rw [e] at r rb
  exact Z_97 h.1 ⟨_, _, e1, h.1, _, _, e2, h.1, _, _, r, h.1, _, _, e3, h.1, s32, b3, fun d => by rw [bz_f d]; rfl, fun d => by rw [bz_t d]; rfl⟩
theorem C_isAsKept (h : mst E t ws me w) (ok : okS c E t ws me) {k : Nat} {q : Int × Int × Int} (hq : me[k]? = some q) : xCall 233 [.ref 39, .int (jI k)] w (some (.int (bz (kpS E q))), w) := by
  have hl := ok.2.2.2.2.2.1
  have m := h.mm hl hq
  obtain ⟨b1, b2, b3, b4, b5, b6, b7, b8⟩ := ok_m ok hq
  obtain ⟨p, hp, ep, g1, g2⟩ := isPr_nat b6
  obtain ⟨n, en⟩ := Int.eq_ofNat_of_zero_le b4
  have r := C_restOf h ok (n := n) (p := p) (by omega) hp
  have rb := resS_le (e := E n) (p := p) (by omega)
  rw [← en, ← ep] at r
  have e : resS (E n) p = resS (E q.1.toNat) q.2.1.toNat := by rw [en, ep, Int.toNat_natCast, Int.toNat_natCast]
  rw [e] at r rb
  refine Z_233 h.1 ⟨by omega, _, by rw [show (3 * (k : Int)).toNat = 3 * k by omega]; exact m.1, by omega, _, by rw [show (3 * (k : Int) + 1).toNat = 3 * k + 1 by omega]; exact m.2.1, _, _, r, h.1, by omega, _, by rw [show (3 * (k : Int) + 2).toNat = 3 * k + 2 by omega]; exact m.2.2, s32, b3, fun d => by rw [bz_f d]; rfl, fun d => by rw [bz_t d]; rfl⟩
def mmV (E : eT) (q : Int × Int × Int) (x : Int) : Int := if x = 0 then q.1 else if x = 1 then q.2.1 else if x = 2 then q.2.2 else if kpS E q then 1 else 0
def mmS (E : eT) (me : memT) (k x : Int) : Int := if 0 ≤ k ∧ 0 ≤ x ∧ x ≤ 3 then (match me[k.toNat]? with | some q => mmV E q x | none => -2) else -1
theorem mmS_in {k x : Int} {q : Int × Int × Int} (h : 0 ≤ k ∧ 0 ≤ x ∧ x ≤ 3) (hq : me[k.toNat]? = some q) : mmS E me k x = mmV E q x := by
  unfold mmS
  rw [if_pos h, hq]
theorem mmS_out {k x : Int} (h : 0 ≤ k ∧ 0 ≤ x ∧ x ≤ 3) (hk : (me.length : Int) ≤ k) : mmS E me k x = -2 := by
  unfold mmS
  rw [if_pos h, List.getElem?_eq_none (by omega)]
theorem mmS_no {k x : Int} (h : ¬ (0 ≤ k ∧ 0 ≤ x ∧ x ≤ 3)) : mmS E me k x = -1 := if_neg h
theorem c_memo (ok : okS c E t ws me) {k x : Int} (hk : in32 k) (hx : in32 x) : cAns E t ws me E t ws me 92 [.int (jI k), .int (jI x)] (.int (jI (mmS E me k x))) := by
  intro w h
  have hl := ok.2.2.2.2.2.1
  have e24 : w[24]? = some (.inr (7, _)) := (by obtain ⟨-, -, -, -, -, -, ⟨f, g, g', h0, -⟩, -⟩ := h; exact h0)
  refine ⟨w, E_92 (S_92_0 (bI_lt k 0 hk z32 (fun d => by rw [mmS_no (by omega)]; rfl) (fun d => bI_lt x 0 hx z32 (fun d2 => by rw [mmS_no (by omega)]; rfl) (fun d2 => bI_le x 3 hx s32 (fun d3 => ?_) (fun d3 => by rw [mmS_no (by omega)]; rfl))))), h, xsame.rf⟩
  refine ⟨_, h.2.1, _, rfl, _, e24, _, _, Z_93 h.1 ⟨_, h.mz, rfl⟩, bI_lt k me.length hk s32 (fun g => ?_) (fun g => by rw [mmS_out ⟨d, d2, d3⟩ g]; rfl)⟩
  have hlt : k.toNat < me.length := by omega
  have hq : me[k.toNat]? = some me[k.toNat] := List.getElem?_eq_getElem hlt
  obtain ⟨e1, e2, e3⟩ := C_entryOf h ok hq
  have hs := C_holdsStill h ok hq
  rw [Int.toNat_of_nonneg d] at e1 e2 e3 hs
  rw [mmS_in ⟨d, d2, d3⟩ hq, jI_toInt hx]
  unfold mmV
  refine ⟨fun z => ?_, fun z => ?_, fun z => ?_, fun z => ?_⟩
  · have z := (jI_eq hx z32).mp z
    rw [if_pos z]
    exact ⟨_, h.2.1, _, rfl, _, e24, _, _, e1, rfl⟩
  · have z := (jI_eq hx (b := 1) s32).mp z
    rw [if_neg (by omega), if_pos z]
    exact ⟨_, h.2.1, _, rfl, _, e24, _, _, e2, rfl⟩
  · have z := (jI_eq hx (b := 2) s32).mp z
    rw [if_neg (by omega), if_neg (by omega), if_pos z]
    exact ⟨_, h.2.1, _, rfl, _, e24, _, _, e3, rfl⟩
  · rw [if_neg (by omega), if_neg (by omega), if_neg (by omega)]
    refine ⟨_, h.2.1, _, _, hs, bz_0 (fun y => by rw [if_neg y]; rfl) (fun y => by rw [if_pos y]; rfl)⟩
theorem m_memo (ok : okS c E t ws me) {k x : Int} (hk : in32 k) (hx : in32 x) : mAns E t ws me E t ws me 232 [.int (jI k), .int (jI x)] (.int (jI (mmS E me k x))) := by
  intro w h0
  have h := h0.p0 (v := jI 0)
  have hl := ok.2.2.2.2.2.1
  refine ⟨_, Z_232 h0.1 (fun w2 e _ => ?_), h, sm_pF (by decide)⟩
  subst e
  refine ⟨hk, fun d => by rw [mmS_no (by omega)], fun d => ⟨_, _, _, C_isIn hx z32 (b := 3) s32 _, h.1, fun d2 => ⟨_, h.mz, s32, fun g => ⟨hx, ?_⟩, fun g => by rw [mmS_out ⟨d, d2.1, d2.2⟩ g]⟩, fun d2 => by rw [mmS_no (by omega)]⟩⟩
  have hlt : k.toNat < me.length := by omega
  have hq : me[k.toNat]? = some me[k.toNat] := List.getElem?_eq_getElem hlt
  have m := h.mm hl hq
  have hs := C_isAsKept h ok hq
  rw [Int.toNat_of_nonneg d] at hs
  rw [mmS_in ⟨d, d2.1, d2.2⟩ hq]
  unfold mmV
  refine ⟨fun z => ⟨_, _, _, hs, h.1, fun y => ?_, fun y => ?_⟩, fun z => ⟨by omega, ?_⟩⟩
  · rw [if_neg (by omega), if_neg (by omega), if_neg (by omega), if_neg y]
  · rw [if_neg (by omega), if_neg (by omega), if_neg (by omega), if_pos y]
  · by_cases x0 : x = 0
    · subst x0
      exact ⟨_, by rw [show (3 * k + 0).toNat = 3 * k.toNat by omega]; exact m.1, rfl⟩
    · by_cases x1 : x = 1
      · subst x1
        exact ⟨_, by rw [show (3 * k + 1).toNat = 3 * k.toNat + 1 by omega]; exact m.2.1, rfl⟩
      · have x2 : x = 2 := by omega
        subst x2
        exact ⟨_, by rw [show (3 * k + 2).toNat = 3 * k.toNat + 2 by omega]; exact m.2.2, rfl⟩
/-! count -/
def nrC (E : eT) : Nat → Int
  | 0 => 0
  | k + 1 => nrC E k + (if E k = rE k then 0 else 1)
theorem nrC_le (E : eT) : ∀ k, 0 ≤ nrC E k ∧ nrC E k ≤ k
  | 0 => ⟨Int.le_refl _, Int.le_refl _⟩
  | k + 1 => by
    have := nrC_le E k
    show 0 ≤ nrC E k + (if E k = rE k then 0 else 1) ∧ nrC E k + (if E k = rE k then 0 else 1) ≤ _
    split <;> omega
def odC (E : eT) : memT → Int
  | [] => 0
  | q :: l => (if kpS E q then 0 else 1) + odC E l
def coS (E : eT) (t : Int) (me : memT) (x : Int) : Int := if x = 0 then t else if x = 1 then nrC E (t + 1).toNat else if x = 2 then me.length else if x = 3 then odC E me else -1
theorem L_185 (h : cst E t ws me w) (ok : okS c E t ws me) : ∀ (k i : Nat), (i : Int) + k = t + 1 →
    xGo 185 4 [some (.ref 0), some (.int (jI (nrC E i))), some (.int (jI (i : Int)))] [] w (some (.int (jI (nrC E (t + 1).toNat))), w) := by
  have ht1 := ok.2.1
  have ht2 := ok.2.2.1
  intro k
  induction k with
  | zero =>
    intro i hi
    refine Z_185_4 h.1 ⟨_, h.top, s32, s32, fun _ => ?_, fun c => by omega⟩
    rw [show (t + 1).toNat = i by omega]
  | succ k ih =>
    intro i hi
    have e : nrC E (i + 1) = nrC E i + (if E i = rE i then 0 else 1) := rfl
    have ih2 := ih (i + 1) (by omega)
    refine Z_185_4 h.1 ⟨_, h.top, s32, s32, fun c => by omega, fun _ => ⟨_, _, _, C_isRight h ok (by omega), h.1, fun g => ?_, fun g => ?_⟩⟩
    · rw [e, if_pos g, Int.add_zero] at ih2
      exact ih2
    · rw [e, if_neg g] at ih2
      exact ih2
theorem L_186 (h : cst E t ws me w) (ok : okS c E t ws me) : ∀ (l : memT) (i : Nat) (a : Int), me.drop i = l → i ≤ me.length →
    xGo 186 4 [some (.ref 0), some (.int (jI a)), some (.int (jI (i : Int)))] [] w (some (.int (jI (a + odC E l))), w)
  | [], i, a, hd, hi => by
    have hl := ok.2.2.2.2.2.1
    have := drop_n hd
    refine Z_186_4 h.1 ⟨_, _, Z_93 h.1 ⟨_, h.mz, rfl⟩, h.1, s32, s32, fun _ => ?_, fun c => by omega⟩
    show (some (Value.int (jI (a + 0))), w) = _
    rw [Int.add_zero]
  | q :: l, i, a, hd, hi => by
    have hl := ok.2.2.2.2.2.1
    obtain ⟨g, hd2, hi2⟩ := drop_c hd
    have e : odC E (q :: l) = (if kpS E q then 0 else 1) + odC E l := rfl
    refine Z_186_4 h.1 ⟨_, _, Z_93 h.1 ⟨_, h.mz, rfl⟩, h.1, s32, s32, fun c => by omega, fun _ => ⟨_, _, _, C_holdsStill h ok g, h.1, fun y => ?_, fun y => ?_⟩⟩
    · rw [e, if_pos y, Int.zero_add]
      exact L_186 h ok l (i + 1) a hd2 (by omega)
    · rw [e, if_neg y, ← Int.add_assoc]
      exact L_186 h ok l (i + 1) (a + 1) hd2 (by omega)
theorem c_count (ok : okS c E t ws me) {x : Int} (hx : in32 x) : cAns E t ws me E t ws me 184 [.int (jI x)] (.int (jI (coS E t me x))) := by
  intro w h
  have e24 : w[24]? = some (.inr (7, _)) := (by obtain ⟨-, -, -, -, -, -, ⟨f, g, g', h0, -⟩, -⟩ := h; exact h0)
  have ht1 := ok.2.1
  refine ⟨w, E_184 (S_184_0 ?_), h, xsame.rf⟩
  rw [jI_toInt hx]
  unfold coS
  refine ⟨fun z => ?_, fun z => ?_, fun z => ?_, fun z => ?_, fun z => ?_⟩
  · have z := (jI_eq hx z32).mp z
    rw [if_pos z]
    exact ⟨_, h.2.1, _, rfl, rfl⟩
  · have z := (jI_eq hx (b := 1) s32).mp z
    rw [if_neg (by omega), if_pos z]
    exact ⟨_, h.2.1, _, _, Z_185 h.1 (L_185 h ok (t + 1).toNat 0 (by omega)), rfl⟩
  · have z := (jI_eq hx (b := 2) s32).mp z
    rw [if_neg (by omega), if_neg (by omega), if_pos z]
    exact ⟨_, h.2.1, _, rfl, _, e24, _, _, Z_93 h.1 ⟨_, h.mz, rfl⟩, rfl⟩
  · have z := (jI_eq hx (b := 3) s32).mp z
    rw [if_neg (by omega), if_neg (by omega), if_neg (by omega), if_pos z]
    have L := L_186 h ok me 0 0 rfl (by omega)
    rw [Int.zero_add] at L
    exact ⟨_, h.2.1, _, _, Z_186 h.1 L, rfl⟩
  · rw [if_neg (by omega), if_neg (by omega), if_neg (by omega), if_neg (by omega)]
    rfl
theorem L_306a (h : mst E t ws me w) (ok : okS c E t ws me) {x : Int32} : ∀ (k i : Nat), (i : Int) + k = t + 1 →
    xGo 306 47 [some (.ref 39), some (.int x), some (.int (jI (nrC E i))), some (.int (jI (i : Int)))] [] w (some (.int (jI (nrC E (t + 1).toNat))), w) := by
  have ht1 := ok.2.1
  have ht2 := ok.2.2.1
  obtain ⟨-, ⟨th, sw, sr, dr, h39⟩, -⟩ := id h
  intro k
  induction k with
  | zero =>
    intro i hi
    refine S_306_47 ⟨_, h39, _, rfl, bI_lt t i s32 s32 (fun _ => ?_) (fun c => by omega)⟩
    rw [show (t + 1).toNat = i by omega]
  | succ k ih =>
    intro i hi
    have e : nrC E (i + 1) = nrC E i + (if E i = rE i then 0 else 1) := rfl
    have ih2 := ih (i + 1) (by omega)
    refine S_306_47 ⟨_, h39, _, rfl, bI_lt t i s32 s32 (fun c => by omega) (fun _ => ⟨_, _, C_misRight h ok (by omega), bz_0 (fun g v8 e8 v9 e9 => ?_) (fun g v8 e8 v9 e9 => ?_)⟩)⟩
    · rw [show (1 : Int32) = jI 1 from rfl, jI_add] at e8 e9
      subst e8; subst e9
      rw [e, if_neg g] at ih2
      exact ih2
    · rw [show (0 : Int32) = jI 0 from rfl, jI_add] at e8
      rw [show (1 : Int32) = jI 1 from rfl, jI_add] at e9
      subst e8; subst e9
      rw [e, if_pos g] at ih2
      exact ih2
theorem L_306b (h : mst E t ws me w) (ok : okS c E t ws me) {x : Int32} : ∀ (l : memT) (i : Nat) (a : Int), me.drop i = l → i ≤ me.length →
    xGo 306 86 [some (.ref 39), some (.int x), some (.int (jI a)), some (.int (jI (i : Int)))] [] w (some (.int (jI (a + odC E l))), w)
  | [], i, a, hd, hi => by
    have hl := ok.2.2.2.2.2.1
    have := drop_n hd
    obtain ⟨-, ⟨th, sw, sr, dr, h39⟩, -⟩ := id h
    refine S_306_86 ⟨_, h39, _, rfl, bI_le me.length i s32 s32 (fun _ => ?_) (fun c => by omega)⟩
    show (some (Value.int (jI (a + 0))), w) = _
    rw [Int.add_zero]
  | q :: l, i, a, hd, hi => by
    have hl := ok.2.2.2.2.2.1
    obtain ⟨g, hd2, hi2⟩ := drop_c hd
    obtain ⟨-, ⟨th, sw, sr, dr, h39⟩, -⟩ := id h
    have e : odC E (q :: l) = (if kpS E q then 0 else 1) + odC E l := rfl
    refine S_306_86 ⟨_, h39, _, rfl, bI_le me.length i s32 s32 (fun c => by omega) (fun _ => ⟨_, _, C_isAsKept h ok g, bz_0 (fun y v8 e8 v9 e9 => ?_) (fun y v8 e8 v9 e9 => ?_)⟩)⟩
    · rw [show (1 : Int32) = jI 1 from rfl, jI_add] at e8 e9
      subst e8; subst e9
      rw [e, if_neg y, ← Int.add_assoc]
      exact L_306b h ok l (i + 1) (a + 1) hd2 (by omega)
    · rw [show (0 : Int32) = jI 0 from rfl, jI_add] at e8
      rw [show (1 : Int32) = jI 1 from rfl, jI_add] at e9
      subst e8; subst e9
      rw [e, if_pos y, ← Int.add_assoc]
      exact L_306b h ok l (i + 1) (a + 0) hd2 (by omega)
theorem m_count (ok : okS c E t ws me) {x : Int} (hx : in32 x) : mAns E t ws me E t ws me 306 [.int (jI x)] (.int (jI (coS E t me x))) := by
  intro w h0
  obtain ⟨fs, h39, hl, h⟩ := h0.begin
  have ht1 := ok.2.1
  refine ⟨_, E_306 (S_306_0 ⟨fs, h39, hl, fun w4 e4 => ?_⟩), h, xsame.set (by decide)⟩
  subst e4
  obtain ⟨-, ⟨th, sw, sr, dr, h39'⟩, -⟩ := id h
  have e39 : mMain th (jI t) 46 (jI me.length) sw sr dr = .inr (12, fs.set 0 (.int (0 : Int32))) := by
    rw [set_get h39] at h39'
    exact (Option.some.inj h39').symm
  have ef : fs.set 0 (.int (0 : Int32)) = [.int th, .ref 40, .ref 41, .ref 42, .int (jI t), .ref 43, .ref 44, .int 46, .long sw, .long sr, .ref 45, .ref 46, .ref 47, .int (jI me.length), .long dr, .ref 48, .ref 49, .ref 50, .ref 51, .ref 52, .ref 53, .ref 54, .ref 55, .ref 56, .ref 57, .ref 58, .ref 59, .ref 60, .ref 61, .ref 62, .ref 63, .ref 64, .ref 65, .ref 66] := by
    have := Sum.inr.inj e39
    exact (congrArg Prod.snd this).symm
  rw [jI_toInt hx]
  unfold coS
  refine ⟨fun z => ?_, fun z => ?_, fun z => ?_, fun z => ?_, fun z => ?_⟩
  · have z := (jI_eq hx z32).mp z
    rw [if_pos z]
    exact ⟨jI t, by rw [ef]; rfl, rfl⟩
  · have z := (jI_eq hx (b := 1) s32).mp z
    rw [if_neg (by omega), if_pos z]
    exact L_306a h ok (t + 1).toNat 0 (by omega)
  · have z := (jI_eq hx (b := 2) s32).mp z
    rw [if_neg (by omega), if_neg (by omega), if_pos z]
    exact ⟨jI me.length, by rw [ef]; rfl, rfl⟩
  · have z := (jI_eq hx (b := 3) s32).mp z
    rw [if_neg (by omega), if_neg (by omega), if_neg (by omega), if_pos z]
    have L := L_306b h ok (x := jI x) me 0 0 rfl (by omega)
    rw [Int.zero_add] at L
    exact L
  · rw [if_neg (by omega), if_neg (by omega), if_neg (by omega), if_neg (by omega)]
    rfl
end A5
