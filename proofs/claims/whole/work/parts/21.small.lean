/-! WHAT IS ASKED OF ARGUMENTS -/
def bz (P : Prop) [Decidable P] : Int32 := if P then 1 else 0
theorem bz_t {P : Prop} [Decidable P] (h : P) : bz P = 1 := if_pos h
theorem bz_f {P : Prop} [Decidable P] (h : ¬ P) : bz P = 0 := if_neg h
theorem bz_01 (P : Prop) [Decidable P] : bz P = 0 ∨ bz P = 1 := by
  unfold bz
  split
  · exact Or.inr rfl
  · exact Or.inl rfl
theorem bz_e {P Q : Prop} [Decidable P] [Decidable Q] (h : P ↔ Q) : bz P = bz Q := by
  by_cases q : Q
  · rw [bz_t q, bz_t (h.mpr q)]
  · rw [bz_f q, bz_f (fun z => q (h.mp z))]
/-- branches on such an answer -/
theorem bz_0 {P X Y : Prop} [Decidable P] (hX : ¬ P → X) (hY : P → Y) : (bz P = 0 → X) ∧ (¬ (bz P = 0) → Y) := by
  by_cases h : P
  · rw [bz_t h]
    exact ⟨fun q => absurd q (by decide), fun _ => hY h⟩
  · rw [bz_f h]
    exact ⟨fun _ => hX h, fun q => absurd rfl q⟩
theorem bz_n {P X Y : Prop} [Decidable P] (hX : P → X) (hY : ¬ P → Y) : (¬ bz P = 0 → X) ∧ (¬ (¬ bz P = 0) → Y) := by
  by_cases h : P
  · rw [bz_t h]
    exact ⟨fun _ => hX h, fun q => absurd (by decide) q⟩
  · rw [bz_f h]
    exact ⟨fun q => absurd rfl q, fun _ => hY h⟩
theorem irem2 {n : Int} (hn : in32 n) (h : 0 ≤ n) : irem (jI n) (2 : Int32) = jI (n % 2) := by rw [show (2 : Int32) = jI 2 from rfl, jI_remN hn h s32]
theorem C_isEntry {n : Int} (hn : in32 n) (w : xW) : xCall 24 [.int (jI n)] w (some (.int (bz (0 ≤ n ∧ n ≤ 38))), w) :=
  E_24 (S_24_0 (bI_lt n 0 hn z32 (fun c => by rw [bz_f (by omega)]) (fun c => bI_lt 38 n s32 hn (fun d => by rw [bz_f (by omega)]) (fun d => by rw [bz_t (by omega)]))))
theorem C_isWay {n : Int} (hn : in32 n) (w : xW) : xCall 25 [.int (jI n)] w (some (.int (bz (0 ≤ n ∧ n ≤ 2))), w) :=
  E_25 (S_25_0 (bI_lt n 0 hn z32 (fun c => by rw [bz_f (by omega)]) (fun c => bI_lt 2 n s32 hn (fun d => by rw [bz_f (by omega)]) (fun d => by rw [bz_t (by omega)]))))
theorem C_isPart {n : Int} (hn : in32 n) (w : xW) : xCall 116 [.int (jI n)] w (some (.int (bz (0 ≤ n ∧ n ≤ 2))), w) :=
  E_116 (S_116_0 (bI_lt n 0 hn z32 (fun c => by rw [bz_f (by omega)]) (fun c => bI_lt 2 n s32 hn (fun d => by rw [bz_f (by omega)]) (fun d => by rw [bz_t (by omega)]))))
theorem C_areTests {n : Int} (hn : in32 n) (w : xW) : xCall 76 [.int (jI n)] w (some (.int (bz (0 ≤ n ∧ n ≤ 63))), w) :=
  E_76 (S_76_0 (bI_lt n 0 hn z32 (fun c => by rw [bz_f (by omega)]) (fun c => bI_lt 63 n s32 hn (fun d => by rw [bz_f (by omega)]) (fun d => by rw [bz_t (by omega)]))))
theorem C_fits {n : Int} (hn : in32 n) (w : xW) : xCall 21 [.int (jI n)] w (some (.int (bz (0 ≤ n ∧ n < 39))), w) :=
  E_21 (S_21_0 (bI_lt n 0 hn z32 (fun c => by rw [bz_f (by omega)]) (fun c => bI_le 39 n s32 hn (fun d => by rw [bz_f (by omega)]) (fun d => by rw [bz_t (by omega)]))))
theorem C_isEven {n : Int} (hn : in32 n) (w : xW) : xCall 47 [.int (jI n)] w (some (.int (bz (2 ≤ n ∧ n % 2 = 0))), w) := by
  refine E_47 (S_47_0 (bI_lt n 2 hn s32 (fun c => by rw [bz_f (by omega)]) (fun c => ?_)))
  rw [irem2 hn (by omega)]
  exact bI_ne (n % 2) 0 s32 z32 (fun d => by rw [bz_f (by omega)]) (fun d => by rw [bz_t (by omega)])
theorem C_isSum {m n : Int} (hm : in32 m) (hn : in32 n) (w : xW) : xCall 152 [.int (jI m), .int (jI n)] w (some (.int (bz (0 ≤ m ∧ m ≤ 24 ∧ 0 ≤ n ∧ n ≤ 1000000000))), w) :=
  E_152 (S_152_0 (bI_lt m 0 hm z32 (fun c => by rw [bz_f (by omega)]) (fun c => bI_lt 24 m s32 hm (fun d => by rw [bz_f (by omega)]) (fun d => bI_lt n 0 hn z32 (fun c => by rw [bz_f (by omega)]) (fun c => bI_lt 1000000000 n s32 hn (fun d => by rw [bz_f (by omega)]) (fun d => by rw [bz_t (by omega)]))))))
theorem C_extra {n : Int} (hn : in32 n) (w : xW) : xCall 149 [.int (jI n)] w (some (.int (bz (n = 1))), w) :=
  E_149 (S_149_0 (bI_ne n 1 hn s32 (fun c => by rw [bz_f c]) (fun c => by rw [bz_t c])))
theorem C_absL {a : Int} (ha : in64 a) (w : xW) : xCall 183 [.long (jL a)] w (some (.long (jL (if 0 ≤ a then a else -a))), w) :=
  E_183 (S_183_0 (bL_le 0 a z64 ha (fun c => by rw [if_pos c]) (fun c => by rw [if_neg (by omega), jL_neg])))
theorem C_maxL {a b : Int} (ha : in64 a) (hb : in64 b) (w : xW) : xCall 38 [.long (jL a), .long (jL b)] w (some (.long (jL (if a < b then b else a))), w) :=
  E_38 (S_38_0 (bL_lt a b ha hb (fun c => by rw [if_pos c]) (fun c => by rw [if_neg (by omega)])))
theorem C_maxI {a b : Int} (ha : in32 a) (hb : in32 b) (w : xW) : xCall 71 [.int (jI a), .int (jI b)] w (some (.int (jI (if a < b then b else a))), w) :=
  E_71 (S_71_0 (bI_lt a b ha hb (fun c => by rw [if_pos c]) (fun c => by rw [if_neg (by omega)])))
theorem C_minI {a b : Int} (ha : in32 a) (hb : in32 b) (w : xW) : xCall 13 [.int (jI a), .int (jI b)] w (some (.int (jI (if b < a then b else a))), w) :=
  E_13 (S_13_0 (bI_lt b a hb ha (fun c => by rw [if_pos c]) (fun c => by rw [if_neg (by omega)])))
/-- the sign that an entry is due -/
def dueS (n : Int) : Int := if n = 0 then 1 else if n % 2 = 0 then (if n % 4 = 2 then 1 else -1) else if n = 1 then -1 else 0
theorem C_dueSign {n : Int} (hn : in32 n) (h : 0 ≤ n) (w : xW) : xCall 64 [.int (jI n)] w (some (.int (jI (dueS n))), w) := by
  refine E_64 (S_64_0 ?_)
  have e4 : irem (jI n) (4 : Int32) = jI (n % 4) := by rw [show (4 : Int32) = jI 4 from rfl, jI_remN hn h s32]
  rw [irem2 hn h, e4]
  unfold dueS
  refine bI_ne n 0 hn z32 (fun c => ?_) (fun c => by rw [if_pos c]; rfl)
  rw [if_neg c]
  refine bI_eq (n % 2) 0 s32 z32 (fun d => ?_) (fun d => ?_)
  · rw [if_pos d]
    exact bI_ne (n % 4) 2 s32 s32 (fun e => by rw [if_neg e]; rfl) (fun e => by rw [if_pos e]; rfl)
  · rw [if_neg d]
    exact bI_ne n 1 hn s32 (fun e => by rw [if_neg e]; rfl) (fun e => by rw [if_pos e]; rfl)
theorem C_mdueSign {n : Int} (hn : in32 n) (h : 0 ≤ n) (w : xW) : xCall 210 [.int (jI n)] w (some (.int (jI (dueS n))), w) := by
  refine E_210 (S_210_0 ?_)
  have e4 : irem (jI n) (4 : Int32) = jI (n % 4) := by rw [show (4 : Int32) = jI 4 from rfl, jI_remN hn h s32]
  rw [irem2 hn h, e4]
  unfold dueS
  refine bI_ne n 0 hn z32 (fun c => ?_) (fun c => by rw [if_pos c]; rfl)
  rw [if_neg c]
  refine bI_ne n 1 hn s32 (fun d => ?_) (fun d => ?_)
  · refine bI_ne (n % 2) 1 s32 s32 (fun e => ?_) (fun e => ?_)
    · rw [if_pos (by omega)]
      exact bI_ne (n % 4) 2 s32 s32 (fun e => by rw [if_neg e]; rfl) (fun e => by rw [if_pos e]; rfl)
    · rw [if_neg (by omega), if_neg d]
      rfl
  · rw [if_neg (by omega), if_pos d]
    rfl
theorem C_isIn {n a b : Int} (hn : in32 n) (ha : in32 a) (hb : in32 b) (w : xW) : xCall 199 [.int (jI n), .int (jI a), .int (jI b)] w (some (.int (bz (a ≤ n ∧ n ≤ b))), w) :=
  E_199 (S_199_0 (bI_lt n a hn ha (fun c => by rw [bz_f (by omega)]) (fun c => bI_lt b n hb hn (fun d => by rw [bz_f (by omega)]) (fun d => by rw [bz_t (by omega)]))))
theorem C_misEntry {a : Nat} {n : Int} (hn : in32 n) (w : xW) : xCall 198 [.ref a, .int (jI n)] w (some (.int (bz (0 ≤ n ∧ n ≤ 38))), w) :=
  E_198 (S_198_0 ⟨_, _, C_isIn hn z32 (b := 38) s32 w, bz_01 _, rfl⟩)
theorem C_misSum {m n : Int} (hm : in32 m) (hn : in32 n) (w : xW) : xCall 280 [.int (jI m), .int (jI n)] w (some (.int (bz (0 ≤ m ∧ m ≤ 24 ∧ 0 ≤ n ∧ n ≤ 1000000000))), w) :=
  E_280 (S_280_0 ⟨_, _, C_isIn hm z32 (b := 24) s32 w, bz_0 (fun c => by rw [bz_f (by omega)]) (fun c => ⟨_, _, C_isIn hn z32 (b := 1000000000) s32 w, bz_0 (fun d => by rw [bz_f (by omega)]) (fun d => by rw [bz_t (by omega)])⟩)⟩)
theorem C_msize {a : Int} (ha : in64 a) (w : xW) : xCall 304 [.long (jL a)] w (some (.long (jL (if 0 ≤ a then a else -a))), w) :=
  E_304 (S_304_0 (bL_le 0 a z64 ha (fun c => by rw [if_pos c]) (fun c => by rw [if_neg (by omega), jL_neg])))
/-! primes from 3 to 199 -/
def prN : List Nat := [3, 5, 7, 11, 13, 17, 19, 23, 29, 31, 37, 41, 43, 47, 53, 59, 61, 67, 71, 73, 79, 83, 89, 97, 101, 103, 107, 109, 113, 127, 131, 137, 139, 149, 151, 157, 163, 167, 173, 179, 181, 191, 193, 197, 199]
abbrev isPr (p : Int) : Prop := 0 ≤ p ∧ p.toNat ∈ prN
theorem isPr_nat {p : Int} (h : isPr p) : ∃ q : Nat, q ∈ prN ∧ p = q ∧ 3 ≤ q ∧ q ≤ 199 := by
  have hb : ∀ q ∈ prN, 3 ≤ q ∧ q ≤ 199 := by decide
  obtain ⟨h1, h2⟩ := hb _ h.2
  exact ⟨p.toNat, h.2, (Int.toNat_of_nonneg h.1).symm, h1, h2⟩
/-- whether the list of the class has a number from a place on -/
def prFrom (p : Nat) (i : Nat) : Bool := (xprimes.drop i).any (fun q => q == jI p)
theorem prFrom_0 : ∀ p, p < 200 → 3 ≤ p → (prFrom p 0 = true ↔ p ∈ prN) := by decide +kernel
theorem xpr_drop {i : Nat} (h : i < 46) : xprimes.drop i = xpr i :: xprimes.drop (i + 1) := by
  have hl : i < xprimes.length := h
  rw [List.drop_eq_getElem_cons hl]
  unfold xpr
  rw [List.getD_eq_getElem?_getD, List.getElem?_eq_getElem hl]
  rfl
theorem L_isPrime {p : Nat} {w : xW} (hp : p < 200) (hw : w[xP]? = none) : ∀ (k i : Nat), i + k = 46 →
    xGo 84 23 [some (.int (jI p)), some (.ref xP), some (.int (46 : Int32)), some (.int (jI i)), none] [] w (some (.int (bz (prFrom p i = true))), w) := by
  intro k
  induction k with
  | zero =>
    intro i hi
    have e : i = 46 := by omega
    subst e
    exact S_84_23 (bI_le 46 (46 : Nat) s32 s32 (fun _ => rfl) (fun c => by omega))
  | succ k ih =>
    intro i hi
    have hx : in32 (i : Int) := s32
    refine S_84_23 (bI_le 46 i s32 hx (fun c => by omega) (fun _ => ⟨hw, jI_in hx (by omega) (by omega), fun v e => ⟨fun c v4 e4 => ?_, fun c => ?_⟩⟩))
    · rw [show (1 : Int32) = jI 1 from rfl, jI_add] at e4
      subst e4
      have h := ih (i + 1) (by omega)
      have eq : prFrom p i = prFrom p (i + 1) := by
        unfold prFrom
        rw [xpr_drop (by omega), List.any_cons]
        rw [jI_nat hx] at e
        have : (xpr i == jI p) = false := by
          rw [beq_eq_false_iff_ne]
          intro q
          exact c (by rw [e]; exact q)
        rw [this, Bool.false_or]
      rw [eq]
      exact h
    · have q := Decidable.not_not.mp c
      rw [jI_nat hx] at e
      have : prFrom p i = true := by
        unfold prFrom
        rw [xpr_drop (by omega), List.any_cons]
        have : (xpr i == jI p) = true := by
          rw [beq_iff_eq, ← q]
          exact e.symm
        rw [this, Bool.true_or]
      rw [bz_t this]
theorem C_isPrime {p : Int} (hp : in32 p) {w : xW} (hw : w[xP]? = none) : xCall 84 [.int (jI p)] w (some (.int (bz (isPr p))), w) := by
  refine E_84 (S_84_0 (bI_lt p 3 hp s32 (fun c => ?_) (fun c => bI_le p 199 hp s32 (fun d => ⟨hw, ?_⟩) (fun d => ?_))))
  · rw [bz_f]
    intro q
    obtain ⟨q0, -, e, h1, h2⟩ := isPr_nat q
    omega
  · obtain ⟨q, rfl⟩ := Int.eq_ofNat_of_zero_le (show 0 ≤ p by omega)
    have h := L_isPrime (p := q) (w := w) (by omega) hw 46 0 (by omega)
    have e : bz (isPr (q : Int)) = bz (prFrom q 0 = true) := bz_e (by
      rw [prFrom_0 q (by omega) (by omega)]
      exact ⟨fun z => z.2, fun z => ⟨by omega, z⟩⟩)
    rw [e]
    exact h
  · rw [bz_f]
    intro q
    obtain ⟨q0, -, e, h1, h2⟩ := isPr_nat q
    omega
/-- the class's PRIMES are below of a right entry -/
def isBel (q n : Int) : Prop := if n = 1 then q = 2 else 2 ≤ n ∧ n % 2 = 0 ∧ 1 < q ∧ n % (q - 1) = 0
