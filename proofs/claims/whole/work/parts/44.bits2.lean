/-! the other tests: below, Kummer's, divisors -/
theorem prZ_pr : ∀ i, i < 46 → 1 ≤ i → (prZ i).toNat ∈ prN := by decide +kernel
theorem prZ_n (i : Nat) : (((prZ i).toNat : Nat) : Int) = prZ i := Int.toNat_of_nonneg (prZ_le i).1
theorem prZ_37 : ∀ i, i < 46 → (prZ i ≤ 37 ↔ i < 12) := by decide +kernel
theorem prZ_2 : ∀ i, i < 46 → 2 ≤ prZ i := by decide +kernel
theorem prZ_3 : ∀ i, i < 46 → 1 ≤ i → 3 ≤ prZ i := by decide +kernel
theorem prZ_mono : ∀ i, i < 46 → ∀ j, j < 46 → i < j → prZ i < prZ j := by decide +kernel
abbrev belP (q n : Int) : Prop := (n = 1 ∧ q = 2) ∨ (n ≠ 1 ∧ 2 ≤ n ∧ n % 2 = 0 ∧ 1 < q ∧ n % (q - 1) = 0)
theorem C_isBelow {w : xW} (hC : CS w) {q n : Int} (q0 : 0 ≤ q) (q1 : q ≤ 200) (hn : in32 n) : xCall 52 [.int (jI q), .int (jI n)] w (some (.int (bz (belP q n))), w) := by
  have q32 : in32 q := s32
  refine Z_52 hC ⟨hn, fun n1 => ⟨_, _, _, C_isEven hn w, hC, fun e => ?_, fun e => ⟨q32, fun d => ?_, fun d => ?_⟩⟩, fun n1 => ⟨q32, fun d => ?_, fun d => ?_⟩⟩
  · rw [bz_f (fun z => z.elim (fun z => n1 z.1) (fun z => e ⟨z.2.1, z.2.2.1⟩))]; rfl
  · rw [bz_f (fun z => z.elim (fun z => n1 z.1) (fun z => by have := z.2.2.2.1; omega))]; rfl
  · refine ⟨s32, by omega, _, tmN (by omega), ?_, fun y => ?_, fun y => ?_⟩
    · have a := Int.emod_nonneg n (show q - 1 ≠ 0 by omega)
      have b := Int.emod_lt_of_pos n (show 0 < q - 1 by omega)
      exact ⟨by omega, by omega⟩
    · rw [bz_f (fun z => z.elim (fun z => n1 z.1) (fun z => y z.2.2.2.2))]; rfl
    · rw [bz_t (Or.inr ⟨n1, e.1, e.2, d, y⟩)]; rfl
  · rw [bz_f (fun z => z.elim (fun z => d z.2) (fun z => z.1 n1))]; rfl
  · rw [bz_t (Or.inl ⟨n1, d⟩)]; rfl
def pBp (n : Int) : Nat → Int
  | 0 => 1
  | i + 1 => if belP (prZ i) n then pBp n i * prZ i else pBp n i
theorem pBp_46 : ∀ n : Nat, n < 39 → pBp n 46 = rB n := by decide +kernel
theorem pBp_m : ∀ n : Nat, n < 39 → 2 ≤ n → n % 2 = 0 → ∀ i, i < 46 → (n : Int) + 1 < prZ i → pBp n i = rB n := by decide +kernel
section B2
variable {c : Nat} {E : eT} {t : Int} {ws : Nat → Int} {me : memT} {w : xW}
abbrev bBel (E : eT) (n : Int) : Prop := (E n.toNat).2.2 ≠ rB n.toNat
theorem L_failsBelow (h : cst E t ws me w) (ok : okS c E t ws me) {n : Int} (n0 : 0 ≤ n) (hn : n ≤ t) : ∀ (k i : Nat), i + k = 46 →
    xGo 62 15 [some (.ref 23), some (.int (jI n)), some (.long (jL (pBp n i))), none, some (.ref xP), some (.int (jI 46)), some (.int (jI (i : Int))), none] [] w (some (.int (bz (bBel E n))), w) := by
  have ht := ok.2.2.1
  intro k
  induction k with
  | zero =>
    intro i hi
    have e : i = 46 := by omega
    have p := pBp_46 n.toNat (by omega)
    rw [Int.toNat_of_nonneg n0] at p
    have rb := rB_pos n.toNat (by omega)
    rw [e, p]
    exact Z_62_15 h.1 ⟨s32, s32, fun _ => ⟨_, _, N_below h ht n0 hn, h.1, (ok_e ok n0 hn).2.2.1, s64, fun q => by rw [bz_f (fun z => z q)]; rfl, fun q => by rw [bz_t q]; rfl⟩, fun q => by omega⟩
  | succ k ih =>
    intro i hi
    have b := prZ_le i
    have ih2 := ih (i + 1) (by omega)
    have e : pBp n (i + 1) = if belP (prZ i) n then pBp n i * prZ i else pBp n i := rfl
    refine Z_62_15 h.1 ⟨s32, s32, fun q => by omega, fun _ => ⟨⟨by omega, by omega⟩, _, _, _, C_isBelow h.1 b.1 (show prZ i ≤ 200 by omega) s32, h.1, fun q => ?_, fun q => ?_⟩⟩
    · rw [e, if_neg (show ¬ belP (prZ i) n from q)] at ih2; exact ih2
    · rw [e, if_pos (show belP (prZ i) n from q)] at ih2; exact ih2
theorem C_failsBelow (h : cst E t ws me w) (ok : okS c E t ws me) {n : Int} (n0 : 0 ≤ n) (hn : n ≤ t) : xCall 62 [.ref 23, .int (jI n)] w (some (.int (bz (bBel E n))), w) :=
  Z_62 h.1 (L_failsBelow h ok n0 hn 46 0 rfl)
theorem L_dueBelow (h : mst E t ws me w) {n : Int} (n2 : 2 ≤ n) (hn : n ≤ 38) (he : n % 2 = 0) : ∀ (k i : Nat), i + k = 45 →
    xGo 208 27 [some (.ref 39), some (.int (jI n)), some (.long (jL (pBp n i))), none, some (.int (jI (i : Int)))] [] w (some (.long (jL (rB n.toNat))), w) := by
  have en : ((n.toNat : Nat) : Int) = n := Int.toNat_of_nonneg (by omega)
  have fin : ∀ i : Nat, i < 46 → n + 1 < prZ i → pBp n i = rB n.toNat := by
    intro i hi hp
    have p := pBp_m n.toNat (by omega) (by omega) (by omega) i hi (by rw [en]; exact hp)
    rw [en] at p
    exact p
  intro k
  induction k with
  | zero =>
    intro i hi
    have e : i = 45 := by omega
    subst e
    have e199 : prZ 45 = 199 := by decide
    exact Z_208_27 h.1 ⟨by omega, _, h.pr (j := 45) (by omega), prZ_in 45, s32, fun _ => by rw [fin 45 (by omega) (by omega)], fun q => by omega⟩
  | succ k ih =>
    intro i hi
    have b := prZ_le i
    have b2 := prZ_2 i (by omega)
    have ih2 := ih (i + 1) (by omega)
    have e : pBp n (i + 1) = if belP (prZ i) n then pBp n i * prZ i else pBp n i := rfl
    have m0 := Int.emod_nonneg n (show prZ i - 1 ≠ 0 by omega)
    have m1 := Int.emod_lt_of_pos n (show 0 < prZ i - 1 by omega)
    refine Z_208_27 h.1 ⟨by omega, _, h.pr (j := i) (by omega), prZ_in i, s32, fun q => by rw [fin i (by omega) q], fun q => ⟨by omega, _, h.pr (j := i) (by omega), s32, s32, by omega, _, tmN (by omega), ⟨by omega, by omega⟩, fun y => ?_, fun y => ⟨by omega, _, h.pr (j := i) (by omega), prZ_in i, ?_⟩⟩⟩
    · rw [e, if_neg (fun z => z.elim (fun z => by have := z.1; omega) (fun z => y z.2.2.2.2))] at ih2
      exact ih2
    · rw [e, if_pos (Or.inr ⟨by omega, n2, he, by omega, y⟩)] at ih2
      exact ih2
theorem rB_odd : ∀ n : Nat, n < 39 → (n ≠ 1 → n % 2 = 1 → rB n = 1) ∧ (n = 1 → rB n = 2) ∧ (n = 0 → rB n = 1) := by decide +kernel
theorem C_dueBelow (h : mst E t ws me w) {n : Int} (n0 : 0 ≤ n) (hn : n ≤ 38) : xCall 208 [.ref 39, .int (jI n)] w (some (.long (jL (rB n.toNat))), w) := by
  have r := rB_odd n.toNat (by omega)
  refine Z_208 h.1 ⟨s32, fun n1 => ⟨_, tmN n0, s32, fun e => by rw [r.1 (by omega) (by omega)], fun e => ⟨fun z => L_dueBelow h (by omega) hn (by omega) 45 0 rfl, fun z => by rw [r.2.2 (by omega)]⟩⟩, fun n1 => by rw [r.2.1 (by omega)]⟩
/-! Kummer's -/
def kC (E : eT) (n : Int) : Bool := (List.range 12).any (fun i => decide (2 ≤ i) && (List.range n.toNat).any (fun m => decide (0 < kuS E (prZ i).toNat (m : Int) n)))
abbrev bKu (E : eT) (n : Int) : Prop := kC E n = true
theorem kC_t {n m : Int} {i : Nat} (h2 : 2 ≤ i) (hi : i < 12) (m0 : 0 ≤ m) (mn : m < n) (hh : 0 < kuS E (prZ i).toNat m n) : bKu E n := by
  unfold bKu kC
  rw [List.any_eq_true]
  refine ⟨i, List.mem_range.mpr hi, ?_⟩
  rw [Bool.and_eq_true]
  refine ⟨decide_eq_true h2, ?_⟩
  rw [List.any_eq_true]
  refine ⟨m.toNat, List.mem_range.mpr (by omega), decide_eq_true ?_⟩
  rw [Int.toNat_of_nonneg m0]
  exact hh
theorem kC_f {n : Int} (h : ∀ i : Nat, 2 ≤ i → i < 12 → ∀ m : Int, 0 ≤ m → m < n → ¬ 0 < kuS E (prZ i).toNat m n) : ¬ bKu E n := by
  unfold bKu kC
  intro q
  rw [List.any_eq_true] at q
  obtain ⟨i, hi, q⟩ := q
  rw [Bool.and_eq_true] at q
  obtain ⟨q1, q⟩ := q
  rw [List.any_eq_true] at q
  obtain ⟨m, hm, q⟩ := q
  have hm2 := List.mem_range.mp hm
  exact h i (of_decide_eq_true q1) (List.mem_range.mp hi) m (by omega) (by omega) (of_decide_eq_true q)
theorem hit_e {p : Nat} {m n : Int} (h : 0 < kuS E p m n) : toldS E p m ∧ toldS E p n ∧ (m - n) % ((p : Int) - 1) = 0 := by
  by_cases q : toldS E p m ∧ toldS E p n ∧ (m - n) % ((p : Int) - 1) = 0
  · exact q
  · rw [kuS_no q] at h; omega
theorem L_kumIn (h : cst E t ws me w) (ok : okS c E t ws me) {n : Int} (n0 : 0 ≤ n) (hn : n ≤ t) {i : Nat} (i2 : 2 ≤ i) (hi : i < 12)
    (K : (∀ m : Int, 0 ≤ m → m < n → ¬ 0 < kuS E (prZ i).toNat m n) → xGo 67 2 [some (.ref 23), some (.int (jI n)), some (.int (jI ((i : Int) + 1))), none, none] [] w (some (.int (bz (bKu E n))), w)) :
    ∀ (N : Nat) (z : Int), z < N → z < n → -300 ≤ z → (prZ i - 1) ∣ (z - n) → (∀ m : Int, z < m → m < n → ¬ 0 < kuS E (prZ i).toNat m n) →
    xGo 67 29 [some (.ref 23), some (.int (jI n)), some (.int (jI (i : Int))), some (.int (jI (prZ i))), some (.int (jI z))] [] w (some (.int (bz (bKu E n))), w) := by
  have ht := ok.2.2.1
  have pb := prZ_le i
  have p3 := prZ_3 i (by omega) (by omega)
  have hp := prZ_pr i (by omega) (by omega)
  have low : ∀ z : Int, z < 2 → (∀ m : Int, z < m → m < n → ¬ 0 < kuS E (prZ i).toNat m n) → ∀ m : Int, 0 ≤ m → m < n → ¬ 0 < kuS E (prZ i).toNat m n := by
    intro z z2 H m m0 mn hh
    by_cases q : z < m
    · exact H m q mn hh
    · have := (hit_e hh).1.1; omega
  intro N
  induction N with
  | zero =>
    intro z zN zn zb zd H
    exact Z_67_29 h.1 ⟨s32, fun _ => K (low z (by omega) H), fun q => by omega⟩
  | succ N ih =>
    intro z zN zn zb zd H
    by_cases z2 : z < 2
    · exact Z_67_29 h.1 ⟨s32, fun _ => K (low z z2 H), fun q => by omega⟩
    · have ku := C_kummerOf h ok hp (m := z) (n := n) (by omega) (by omega) n0 hn
      rw [prZ_n] at ku
      have kb := kuS_in (E := E) (p := (prZ i).toNat) (m := z) (n := n) (by omega)
      refine Z_67_29 h.1 ⟨s32, fun q => by omega, fun _ => ⟨_, _, ku, h.1, s32, fun q => ⟨_, _, C_maxI (a := prZ i - 1) (b := 1) s32 s32 w, h.1, ?_⟩, fun q => by rw [bz_t (kC_t i2 hi (by omega) zn q)]; rfl⟩⟩
      rw [if_neg (by omega)]
      refine ih (z - (prZ i - 1)) (by omega) (by omega) (by omega) ?_ (fun m m1 m2 hh => ?_)
      · have := Int.dvd_sub zd (Int.dvd_refl (prZ i - 1))
        rw [show z - (prZ i - 1) - n = z - n - (prZ i - 1) by omega]
        exact this
      · by_cases c1 : z < m
        · exact H m c1 m2 hh
        · by_cases c2 : m = z
          · rw [c2] at hh; omega
          · have d := Int.dvd_of_emod_eq_zero (hit_e hh).2.2
            rw [prZ_n] at d
            have d2 := Int.dvd_sub zd d
            rw [show z - n - (m - n) = z - m by omega] at d2
            have := Int.le_of_dvd (by omega) d2
            omega
theorem L_kum (h : cst E t ws me w) (ok : okS c E t ws me) {n : Int} (n0 : 0 ≤ n) (hn : n ≤ t) : ∀ (k i : Nat), i + k = 12 → 2 ≤ i → (∀ j : Nat, 2 ≤ j → j < i → ∀ m : Int, 0 ≤ m → m < n → ¬ 0 < kuS E (prZ j).toNat m n) →
    xGo 67 2 [some (.ref 23), some (.int (jI n)), some (.int (jI (i : Int))), none, none] [] w (some (.int (bz (bKu E n))), w) := by
  have ht := ok.2.2.1
  intro k
  induction k with
  | zero =>
    intro i hi i2 H
    exact Z_67_2 h.1 ⟨s32, fun _ => by rw [bz_f (kC_f (fun j j2 j12 => H j j2 (by omega)))]; rfl, fun q => by omega⟩
  | succ k ih =>
    intro i hi i2 H
    have pb := prZ_le i
    have p3 := prZ_3 i (by omega) (by omega)
    refine Z_67_2 h.1 ⟨s32, fun q => by omega, fun _ => ⟨fun q => by omega, fun _ => ⟨⟨by omega, by omega⟩, ?_⟩⟩⟩
    refine L_kumIn h ok n0 hn i2 (by omega) (fun Hi => ih (i + 1) (by omega) (by omega) (fun j j2 jl => ?_)) 400 (n - prZ i + 1) (by omega) (by omega) (by omega) ⟨-1, by omega⟩ (fun m m1 m2 hh => ?_)
    · by_cases q : j < i
      · exact H j j2 q
      · rw [show j = i by omega]; exact Hi
    · have d := Int.dvd_of_emod_eq_zero (hit_e hh).2.2
      rw [prZ_n] at d
      have d2 := Int.dvd_neg.mpr d
      have := Int.le_of_dvd (by omega) d2
      omega
theorem C_failsKummer (h : cst E t ws me w) (ok : okS c E t ws me) {n : Int} (n0 : 0 ≤ n) (hn : n ≤ t) : xCall 67 [.ref 23, .int (jI n)] w (some (.int (bz (bKu E n))), w) :=
  Z_67 h.1 (L_kum h ok n0 hn 10 2 rfl (by omega) (fun j j1 j2 => by omega))
theorem L_mkumIn (h : mst E t ws me w) (ok : okS c E t ws me) {n : Int} (n0 : 0 ≤ n) (hn : n ≤ t) {i : Nat} (i2 : 2 ≤ i) (hi : i < 12)
    (K : (∀ m : Int, 0 ≤ m → m < n → ¬ 0 < kuS E (prZ i).toNat m n) → xGo 212 2 [some (.ref 39), some (.int (jI n)), some (.int (jI ((i : Int) + 1))), none] [] w (some (.int (bz (bKu E n))), w)) :
    ∀ (N : Nat) (z : Int), n - z < N → 2 ≤ z → z ≤ n + 2 → z % 2 = 0 → (∀ m : Int, 0 ≤ m → m < z → m < n → ¬ 0 < kuS E (prZ i).toNat m n) →
    xGo 212 15 [some (.ref 39), some (.int (jI n)), some (.int (jI (i : Int))), some (.int (jI z))] [] w (some (.int (bz (bKu E n))), w) := by
  have ht := ok.2.2.1
  have pb := prZ_le i
  have p3 := prZ_3 i (by omega) (by omega)
  have hp := prZ_pr i (by omega) (by omega)
  intro N
  induction N with
  | zero =>
    intro z zN z2 zb ze H
    exact Z_212_15 h.1 ⟨s32, s32, fun _ => K (fun m m0 mn => H m m0 (by omega) mn), fun q => by omega⟩
  | succ N ih =>
    intro z zN z2 zb ze H
    by_cases zn : n ≤ z
    · exact Z_212_15 h.1 ⟨s32, s32, fun _ => K (fun m m0 mn => H m m0 (by omega) mn), fun q => by omega⟩
    · have ku := C_mkummerOf h ok hp (m := z) (n := n) (by omega) (by omega) n0 hn
      rw [prZ_n] at ku
      have kb := kuS_in (E := E) (p := (prZ i).toNat) (m := z) (n := n) (by omega)
      refine Z_212_15 h.1 ⟨s32, s32, fun q => by omega, fun _ => ⟨by omega, _, h.pr (j := i) (by omega), _, _, ku, h.1, s32, fun q => ?_, fun q => by rw [bz_t (kC_t i2 hi (by omega) (by omega) q)]; rfl⟩⟩
      refine ih (z + 2) (by omega) (by omega) (by omega) (by omega) (fun m m0 m1 m2 hh => ?_)
      by_cases c1 : m < z
      · exact H m m0 c1 m2 hh
      · by_cases c2 : m = z
        · rw [c2] at hh; omega
        · have := (hit_e hh).1.2.1; omega
theorem L_mkum (h : mst E t ws me w) (ok : okS c E t ws me) {n : Int} (n0 : 0 ≤ n) (hn : n ≤ t) : ∀ (k i : Nat), i + k = 12 → 2 ≤ i → (∀ j : Nat, 2 ≤ j → j < i → ∀ m : Int, 0 ≤ m → m < n → ¬ 0 < kuS E (prZ j).toNat m n) →
    xGo 212 2 [some (.ref 39), some (.int (jI n)), some (.int (jI (i : Int))), none] [] w (some (.int (bz (bKu E n))), w) := by
  have ht := ok.2.2.1
  intro k
  induction k with
  | zero =>
    intro i hi i2 H
    have p := prZ_37 i (by omega)
    exact Z_212_2 h.1 ⟨by omega, _, h.pr (j := i) (by omega), prZ_in i, fun _ => by rw [bz_f (kC_f (fun j j2 j12 => H j j2 (by omega)))]; rfl, fun q => by have := p.mp q; omega⟩
  | succ k ih =>
    intro i hi i2 H
    have p := prZ_37 i (by omega)
    refine Z_212_2 h.1 ⟨by omega, _, h.pr (j := i) (by omega), prZ_in i, fun q => by have := p.mpr (by omega); omega, fun _ => ?_⟩
    refine L_mkumIn h ok n0 hn i2 (by omega) (fun Hi => ih (i + 1) (by omega) (by omega) (fun j j2 jl => ?_)) 40 2 (by omega) (by omega) (by omega) (by omega) (fun m m0 m1 m2 hh => ?_)
    · by_cases q : j < i
      · exact H j j2 q
      · rw [show j = i by omega]; exact Hi
    · have := (hit_e hh).1.1; omega
theorem C_breaksKummer (h : mst E t ws me w) (ok : okS c E t ws me) {n : Int} (n0 : 0 ≤ n) (hn : n ≤ t) : xCall 212 [.ref 39, .int (jI n)] w (some (.int (bz (bKu E n))), w) :=
  Z_212 h.1 (L_mkum h ok n0 hn 10 2 rfl (by omega) (fun j j1 j2 => by omega))
/-! divisors -/
abbrev dvH (E : eT) (n : Int) (i : Nat) : Prop := 2 ≤ i ∧ prZ i ≤ n ∧ n % prZ i = 0 ∧ n % (prZ i - 1) ≠ 0 ∧ resS (E n.toNat) (prZ i).toNat ≠ 0
def dC (E : eT) (n : Int) : Bool := decide (2 ≤ n ∧ n % 2 = 0) && (List.range 46).any (fun i => decide (dvH E n i))
abbrev bDv (E : eT) (n : Int) : Prop := dC E n = true
theorem dC_t {n : Int} {i : Nat} (n2 : 2 ≤ n) (ne : n % 2 = 0) (hi : i < 46) (hh : dvH E n i) : bDv E n := by
  unfold bDv dC
  rw [Bool.and_eq_true]
  refine ⟨decide_eq_true ⟨n2, ne⟩, ?_⟩
  rw [List.any_eq_true]
  exact ⟨i, List.mem_range.mpr hi, decide_eq_true hh⟩
theorem dC_f {n : Int} (h : 2 ≤ n → n % 2 = 0 → ∀ i : Nat, i < 46 → ¬ dvH E n i) : ¬ bDv E n := by
  unfold bDv dC
  intro q
  rw [Bool.and_eq_true] at q
  obtain ⟨q1, q⟩ := q
  rw [List.any_eq_true] at q
  obtain ⟨i, hi, q⟩ := q
  have q2 := of_decide_eq_true q1
  exact h q2.1 q2.2 i (List.mem_range.mp hi) (of_decide_eq_true q)
theorem L_divis (h : cst E t ws me w) (ok : okS c E t ws me) {n : Int} (n0 : 2 ≤ n) (ne : n % 2 = 0) (hn : n ≤ t) : ∀ (k i : Nat), i + k = 46 → 2 ≤ i → (∀ j : Nat, j < i → ¬ dvH E n j) →
    xGo 72 11 [some (.ref 23), some (.int (jI n)), some (.int (jI (i : Int))), none] [] w (some (.int (bz (bDv E n))), w) := by
  have ht := ok.2.2.1
  intro k
  induction k with
  | zero =>
    intro i hi i2 H
    exact Z_72_11 h.1 ⟨s32, fun _ => by rw [bz_f (dC_f (fun _ _ j j2 => H j (by omega)))]; rfl, fun q => by omega⟩
  | succ k ih =>
    intro i hi i2 H
    have pb := prZ_le i
    have p3 := prZ_3 i (by omega) (by omega)
    have hp := prZ_pr i (by omega) (by omega)
    have b := ok_e ok (n := n) (by omega) hn
    have nx : ¬ dvH E n i → xGo 72 11 [some (.ref 23), some (.int (jI n)), some (.int (jI ((i : Int) + 1))), none] [] w (some (.int (bz (bDv E n))), w) := by
      intro no
      refine ih (i + 1) (by omega) (by omega) (fun j jl => ?_)
      by_cases q : j < i
      · exact H j q
      · rw [show j = i by omega]; exact no
    have m0 := Int.emod_nonneg n (show prZ i ≠ 0 by omega)
    have m1 := Int.emod_lt_of_pos n (show 0 < prZ i by omega)
    have m2 := Int.emod_nonneg n (show prZ i - 1 ≠ 0 by omega)
    have m3 := Int.emod_lt_of_pos n (show 0 < prZ i - 1 by omega)
    have m4 := Int.emod_nonneg (E n.toNat).2.2 (show prZ i ≠ 0 by omega)
    have m5 := Int.emod_lt_of_pos (E n.toNat).2.2 (show 0 < prZ i by omega)
    refine Z_72_11 h.1 ⟨s32, fun q => by omega, fun _ => ⟨⟨by omega, by omega⟩, fun q => ?_, fun _ => ⟨s32, fun q => nx (fun z => ?_), fun q => ⟨?_, _, tmN (by omega), ?_, fun y => nx (fun z => y z.2.2.1), fun y => ⟨?_, ?_, _, tmN (by omega), ?_, fun d => ?_, fun d => nx (fun z => z.2.2.2.1 d)⟩⟩⟩⟩⟩
    · exact absurd (show prZ i < 2 from q) (by omega)
    · have a : n < prZ i := q
      have := z.2.1
      omega
    · exact show prZ i ≠ 0 by omega
    · exact show in32 (n % prZ i) from ⟨by omega, by omega⟩
    · exact show in32 (prZ i - 1) from s32
    · exact show prZ i - 1 ≠ 0 by omega
    · exact show in32 (n % (prZ i - 1)) from ⟨by omega, by omega⟩
    · refine ⟨_, _, N_below h ht (by omega) hn, h.1, b.2.2.1, show prZ i ≠ 0 by omega, (E n.toNat).2.2 % prZ i, tmN (by omega), ⟨by omega, by omega⟩, fun y2 => ?_, fun y2 => ?_⟩
      · have rn : resS (E n.toNat) (prZ i).toNat < 0 := (resS_neg (by omega)).mpr (by rw [prZ_n]; exact y2)
        rw [bz_t (dC_t n0 ne (by omega) ⟨i2, q, y, d, by omega⟩)]
        rfl
      · have nd : ¬ (((prZ i).toNat : Nat) : Int) ∣ (E n.toNat).2.2 := by rw [prZ_n]; exact ndvd_of y2
        have tm := T_modulo (w := w) (e := 12) (n := n.toNat) (p := (prZ i).toNat) ok.1 h.1.e12 h.2.2.2.2.1 (by omega) (by omega) (ok.2.2.2.1 n.toNat (by omega)) hp nd
        rw [prZ_n, Int.toNat_of_nonneg (show 0 ≤ n by omega)] at tm
        have re : resS (E n.toNat) (prZ i).toNat = resV (E n.toNat) (prZ i).toNat := if_neg nd
        have rb := resV_le (e := E n.toNat) (p := (prZ i).toNat) (by omega)
        refine ⟨_, _, tm, h.1, s64, fun v => nx (fun z => z.2.2.2.2 (by rw [re]; exact v)), fun v => ?_⟩
        rw [bz_t (dC_t n0 ne (by omega) ⟨i2, q, y, d, by rw [re]; exact v⟩)]
        rfl
theorem C_failsDivisor (h : cst E t ws me w) (ok : okS c E t ws me) {n : Int} (n0 : 0 ≤ n) (hn : n ≤ t) : xCall 72 [.ref 23, .int (jI n)] w (some (.int (bz (bDv E n))), w) := by
  have ht := ok.2.2.1
  exact Z_72 h.1 ⟨_, _, _, C_isEven s32 w, h.1, fun e => L_divis h ok e.1 e.2 hn 44 2 rfl (by omega) (fun j j1 z => by have := z.1; omega), fun e => by rw [bz_f (dC_f (fun a b => absurd ⟨a, b⟩ e))]; rfl⟩
theorem L_mdivis (h : mst E t ws me w) (ok : okS c E t ws me) {n : Int} (n0 : 2 ≤ n) (ne : n % 2 = 0) (hn : n ≤ t) : ∀ (k i : Nat), i + k = 45 → 2 ≤ i → (∀ j : Nat, j < i → ¬ dvH E n j) →
    xGo 217 16 [some (.ref 39), some (.int (jI n)), some (.int (jI (i : Int)))] [] w (some (.int (bz (bDv E n))), w) := by
  have ht := ok.2.2.1
  have out : ∀ i : Nat, i < 46 → n < prZ i → (∀ j : Nat, j < i → ¬ dvH E n j) → ¬ bDv E n := by
    intro i hi hp H
    refine dC_f (fun _ _ j j46 z => ?_)
    by_cases q : j < i
    · exact H j q z
    · have zz := z.2.1
      by_cases q2 : j = i
      · rw [q2] at zz; omega
      · have := prZ_mono i hi j j46 (by omega); omega
  intro k
  induction k with
  | zero =>
    intro i hi i2 H
    have e : i = 45 := by omega
    subst e
    have e199 : prZ 45 = 199 := by decide
    exact Z_217_16 h.1 ⟨by omega, _, h.pr (j := 45) (by omega), prZ_in 45, s32, fun _ => by rw [bz_f (out 45 (by omega) (by omega) H)]; rfl, fun q => by omega⟩
  | succ k ih =>
    intro i hi i2 H
    have pb := prZ_le i
    have p3 := prZ_3 i (by omega) (by omega)
    have hp := prZ_pr i (by omega) (by omega)
    have nx : ¬ dvH E n i → xGo 217 16 [some (.ref 39), some (.int (jI n)), some (.int (jI ((i : Int) + 1)))] [] w (some (.int (bz (bDv E n))), w) := by
      intro no
      refine ih (i + 1) (by omega) (by omega) (fun j jl => ?_)
      by_cases q : j < i
      · exact H j q
      · rw [show j = i by omega]; exact no
    have m0 := Int.emod_nonneg n (show prZ i ≠ 0 by omega)
    have m1 := Int.emod_lt_of_pos n (show 0 < prZ i by omega)
    have m2 := Int.emod_nonneg n (show prZ i - 1 ≠ 0 by omega)
    have m3 := Int.emod_lt_of_pos n (show 0 < prZ i - 1 by omega)
    have rs := C_restOfZ h ok hp (n := n) (by omega) hn
    rw [prZ_n] at rs
    have rb := resS_le (e := E n.toNat) (p := (prZ i).toNat) (by omega)
    have pr := h.pr (j := i) (by omega)
    exact Z_217_16 h.1 ⟨by omega, _, pr, prZ_in i, s32, fun q => by rw [bz_f (out i (by omega) q H)]; rfl, fun q => ⟨by omega, _, pr, prZ_in i, by omega, _, tmN (by omega), ⟨by omega, by omega⟩, fun y => nx (fun z => y z.2.2.1), fun y => ⟨by omega, _, pr, s32, by omega, _, tmN (by omega), ⟨by omega, by omega⟩, fun d => nx (fun z => z.2.2.2.1 d), fun d => ⟨by omega, _, pr, _, _, rs, h.1, s32, fun v => nx (fun z => z.2.2.2.2 v), fun v => by rw [bz_t (dC_t n0 ne (by omega) ⟨i2, q, y, d, v⟩)]; rfl⟩⟩⟩⟩
theorem C_breaksPrimes (h : mst E t ws me w) (ok : okS c E t ws me) {n : Int} (n0 : 0 ≤ n) (hn : n ≤ t) : xCall 217 [.ref 39, .int (jI n)] w (some (.int (bz (bDv E n))), w) := by
  have ht := ok.2.2.1
  exact Z_217 h.1 ⟨s32, fun q => by rw [bz_f (dC_f (fun a b => by omega))]; rfl, fun q => ⟨_, tmN n0, s32, fun e => L_mdivis h ok q (by omega) hn 43 2 rfl (by omega) (fun j j1 z => by have := z.1; omega), fun e => by rw [bz_f (dC_f (fun a b => by omega))]; rfl⟩⟩
end B2
