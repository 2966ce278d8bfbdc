/-! way, right, byPowers, wilson -/
theorem ix0 {n : Nat} : (3 : Int32) * jI (n : Int) = jI ((3 * n : Nat) : Int) := by
  rw [show (3 : Int32) = jI 3 from rfl, jI_mul]
  congr 1
theorem ix1 {n : Nat} : (3 : Int32) * jI (n : Int) + (1 : Int32) = jI ((3 * n + 1 : Nat) : Int) := by
  rw [show (3 : Int32) = jI 3 from rfl, show (1 : Int32) = jI 1 from rfl, jI_mul, jI_add]
  congr 1
theorem ix2 {n : Nat} : (3 : Int32) * jI (n : Int) + (2 : Int32) = jI ((3 * n + 2 : Nat) : Int) := by
  rw [show (3 : Int32) = jI 3 from rfl, show (2 : Int32) = jI 2 from rfl, jI_mul, jI_add]
  congr 1
theorem ixin {k m : Nat} (hk : k < m) (hm : m ≤ 2000) : ¬ (jI (k : Int) < 0 ∨ m ≤ (jI (k : Int)).toNatClampNeg) := jI_in (n := m) s32 (by omega) (by omega)
theorem ixn {k : Nat} (hk : k ≤ 2000) : (jI (k : Int)).toNatClampNeg = k := by rw [jI_nat s32]; simp
theorem C_misRight {c : Nat} {E : eT} {t : Int} {ws : Nat → Int} {me : memT} {w : xW} (h : mst E t ws me w) (ok : okS c E t ws me) {n : Nat} (hn : (n : Int) ≤ t) : xCall 201 [.ref 39, .int (jI n)] w (some (.int (bz (E n = rE n))), w) := by
  obtain ⟨hC, ⟨th, sw, sr, dr, h39⟩, ⟨f40, h40, k40⟩, ⟨f41, h41, k41⟩, -⟩ := h
  obtain ⟨hc, ht1, ht2, hok, -⟩ := ok
  have hn39 : n < 39 := by omega
  have b := (hok n hn).bounds hc hn39
  have b' := rE_bounds hn39
  have key : E n = rE n ↔ (E n).1 = rW n ∧ (E n).2.1 = rA n ∧ (E n).2.2 = rB n := by
    rw [Prod.ext_iff, Prod.ext_iff]
    rfl
  have k1 := k41 n hn
  have k0 := k40 n hn39
  refine E_201 (S_201_0 ?_)
  rw [ix1, ix2, ix0, ixn (k := 3 * n) (by omega), ixn (k := 3 * n + 1) (by omega), ixn (k := 3 * n + 2) (by omega)]
  refine ⟨_, h39, _, rfl, _, _, h41, ?_, _, rfl, _, _, h40, ?_, ?_⟩
  · have := ixin (k := 3 * n) (m := 117) (by omega) (by omega)
    rw [ixn (by omega)] at this
    exact this
  · have := ixin (k := 3 * n) (m := 117) (by omega) (by omega)
    rw [ixn (by omega)] at this
    exact this
  · rw [k1.1, k1.2.1, k1.2.2, k0.1, k0.2.1, k0.2.2]
    have i1 := ixin (k := 3 * n + 1) (m := 117) (by omega) (by omega)
    rw [ixn (by omega)] at i1
    have i2 := ixin (k := 3 * n + 2) (m := 117) (by omega) (by omega)
    rw [ixn (by omega)] at i2
    exact bL_ne _ _ b.1 b'.1 (fun c => by rw [bz_f (fun z => c (key.mp z).1)]) (fun c => ⟨i1, i1, bL_ne _ _ b.2.1 b'.2.1 (fun c2 => by rw [bz_f (fun z => c2 (key.mp z).2.1)]) (fun c2 => ⟨i2, i2, bL_ne _ _ b.2.2.1 b'.2.2 (fun c3 => by rw [bz_f (fun z => c3 (key.mp z).2.2)]) (fun c3 => by rw [bz_t (key.mpr ⟨c, c2, c3⟩)])⟩)⟩)
/-! way -/
def wayS (t : Int) (ws : Nat → Int) (n : Int) : Int := if 0 ≤ n ∧ n ≤ 38 then (if n ≤ t then ws n.toNat else -2) else -1
theorem c_way {c : Nat} {E : eT} {t : Int} {ws : Nat → Int} {me : memT} (ok : okS c E t ws me) {n : Int} (hn : in32 n) : cAns E t ws me E t ws me 78 [.int (jI n)] (.int (jI (wayS t ws n))) := by
  intro w h
  obtain ⟨-, h0, -, -, -, ⟨f, h22, k22⟩, -⟩ := id h
  have ht1 := ok.2.1
  have ht2 := ok.2.2.1
  refine ⟨w, E_78 (S_78_0 ⟨_, _, C_isEntry hn w, ?_⟩), h, xsame.rf⟩
  unfold wayS
  refine bz_n (fun q => ?_) (fun q => by rw [if_neg q]; rfl)
  rw [if_pos q]
  refine ⟨_, h0, _, rfl, bI_le n t hn s32 (fun d => ⟨_, rfl, _, _, h22, jI_in hn q.1 (by omega), ?_⟩) (fun d => by rw [if_neg (by omega)]; rfl)⟩
  rw [if_pos d, jI_nat hn, k22 n.toNat (by omega)]
theorem m_way {c : Nat} {E : eT} {t : Int} {ws : Nat → Int} {me : memT} (ok : okS c E t ws me) {n : Int} (hn : in32 n) : mAns E t ws me E t ws me 220 [.int (jI n)] (.int (jI (wayS t ws n))) := by
  intro w h
  obtain ⟨fs, h39, hl, h'⟩ := h.begin
  have ht1 := ok.2.1
  have ht2 := ok.2.2.1
  refine ⟨_, E_220 (S_220_0 ⟨fs, h39, hl, fun w4 e4 => ?_⟩), h', xsame.set (by decide)⟩
  subst e4
  refine ⟨_, _, C_misEntry hn _, ?_⟩
  obtain ⟨-, ⟨th, sw, sr, dr, h39'⟩, -, -, ⟨f, h42, k42⟩, -⟩ := id h'
  unfold wayS
  refine bz_n (fun q => ?_) (fun q => by rw [if_neg q]; rfl)
  rw [if_pos q]
  refine ⟨_, h39', _, rfl, bI_le n t hn s32 (fun d => ⟨_, rfl, _, _, h42, jI_in hn q.1 (by omega), ?_⟩) (fun d => by rw [if_neg (by omega)]; rfl)⟩
  rw [if_pos d, jI_nat hn, k42 n.toNat (by omega)]
/-! right -/
def rightS (E : eT) (t : Int) (n : Int) : Int32 := if 0 ≤ n ∧ n ≤ 38 then (if n ≤ t then bz (E n.toNat = rE n.toNat) else -2) else -1
theorem bz_id {P : Prop} [Decidable P] {w : xW} : (bz P = 0 → (some (Value.int (bz P)), w) = (some (.int (0 : Int32)), w)) ∧ (¬ (bz P = 0) → (some (Value.int (bz P)), w) = (some (.int (1 : Int32)), w)) := bz_0 (fun c => by rw [bz_f c]) (fun c => by rw [bz_t c])
theorem c_right {c : Nat} {E : eT} {t : Int} {ws : Nat → Int} {me : memT} (ok : okS c E t ws me) {n : Int} (hn : in32 n) : cAns E t ws me E t ws me 79 [.int (jI n)] (.int (rightS E t n)) := by
  intro w h
  have ht1 := ok.2.1
  have ht2 := ok.2.2.1
  refine ⟨w, E_79 (S_79_0 ⟨_, _, C_isEntry hn w, ?_⟩), h, xsame.rf⟩
  unfold rightS
  refine bz_n (fun q => ?_) (fun q => by rw [if_neg q])
  rw [if_pos q]
  refine ⟨_, h.2.1, _, rfl, bI_le n t hn s32 (fun d => ?_) (fun d => by rw [if_neg (by omega)])⟩
  obtain ⟨m, rfl⟩ := Int.eq_ofNat_of_zero_le q.1
  rw [if_pos d]
  exact ⟨_, _, C_isRight h ok d, bz_id⟩
theorem m_right {c : Nat} {E : eT} {t : Int} {ws : Nat → Int} {me : memT} (ok : okS c E t ws me) {n : Int} (hn : in32 n) : mAns E t ws me E t ws me 221 [.int (jI n)] (.int (rightS E t n)) := by
  intro w h
  obtain ⟨fs, h39, hl, h'⟩ := h.begin
  have ht1 := ok.2.1
  have ht2 := ok.2.2.1
  refine ⟨_, E_221 (S_221_0 ⟨fs, h39, hl, fun w4 e4 => ?_⟩), h', xsame.set (by decide)⟩
  subst e4
  refine ⟨_, _, C_misEntry hn _, ?_⟩
  obtain ⟨-, ⟨th, sw, sr, dr, h39'⟩, -⟩ := id h'
  unfold rightS
  refine bz_n (fun q => ?_) (fun q => by rw [if_neg q])
  rw [if_pos q]
  refine ⟨_, h39', _, rfl, bI_le n t hn s32 (fun d => ?_) (fun d => by rw [if_neg (by omega)])⟩
  obtain ⟨m, rfl⟩ := Int.eq_ofNat_of_zero_le q.1
  rw [if_pos d]
  exact ⟨_, _, C_misRight h' ok d, bz_id⟩
