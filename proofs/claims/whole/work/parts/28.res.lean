/-! RESIDUES OF ENTRIES -/
theorem C_least {a m : Int} (ha : in64 a) (hm : in64 m) (h0 : 0 < m) (w : xW) : xCall 54 [.long (jL a), .long (jL m)] w (some (.long (jL (a % m))), w) :=
  E_54 (S_54_0 (bL_le m 0 hm z64 (fun c => by omega) (fun _ => ⟨_, _, C_floorMod ha hm h0 w, rfl⟩)))
theorem C_rest {a : Int} {p : Nat} (ha : in64 a) (h1 : 1 ≤ p) (hp : p ≤ 1000000) (w : xW) : xCall 215 [.long (jL a), .int (jI p)] w (some (.int (jI (a % p))), w) := by
  have hb : in64 (p : Int) := s64
  have m0 := Int.emod_nonneg a (b := (p : Int)) (by omega)
  have m1 := Int.emod_lt_of_pos a (b := (p : Int)) (by omega)
  have e := Int.tmod_eq_emod (a := a) (b := (p : Int))
  refine E_215 (S_215_0 ?_)
  rw [jI_toL s32]
  refine ⟨ne_L p 0 hb z64 (by omega), fun v hv => ?_⟩
  rw [jL_rem ha hb] at hv
  subst hv
  by_cases hc : 0 ≤ a ∨ (p : Int) ∣ a
  · rw [if_pos hc] at e
    have e : a.tmod (p : Int) = a % p := by rw [e]; simp
    rw [e]
    exact bL_le 0 _ z64 s64 (fun _ => by rw [jL_toI]) (fun c => by omega)
  · rw [if_neg hc] at e
    have hz : a % p ≠ 0 := fun q => hc (Or.inr (Int.dvd_of_emod_eq_zero q))
    have en : ((p : Int).natAbs : Int) = p := Int.natAbs_of_nonneg (by omega)
    rw [e]
    refine bL_le 0 _ z64 s64 (fun c => by omega) (fun _ => ?_)
    rw [jL_add, jL_toI]
    congr 4
    omega
/-- Fermat, for the primes of the document -/
theorem fermat : ∀ p ∈ prN, ∀ b, b < p → 0 < b → b ^ (p - 2) % p * b % p = 1 := by decide +kernel
/-- the number that makes 1 with b modulo p -/
def fi (b : Int) (p : Nat) : Int := (((b % p).toNat ^ (p - 2) % p : Nat) : Int)
theorem fi_le {b : Int} {p : Nat} (h : 3 ≤ p) : 0 ≤ fi b p ∧ fi b p < p := by
  unfold fi
  have := Nat.mod_lt ((b % p).toNat ^ (p - 2)) (show 0 < p by omega)
  omega
theorem fi_one {b : Int} {p : Nat} (hp : p ∈ prN) (h : ¬ (p : Int) ∣ b) : (p : Int) ∣ (fi b p * b - 1) := by
  have h3 : 3 ≤ p := by
    have : ∀ q ∈ prN, 3 ≤ q := by decide
    exact this p hp
  have m0 := Int.emod_nonneg b (b := (p : Int)) (by omega)
  have m1 := Int.emod_lt_of_pos b (b := (p : Int)) (by omega)
  have hz : b % p ≠ 0 := fun q => h (Int.dvd_of_emod_eq_zero q)
  have f := fermat p hp (b % p).toNat (by omega) (by omega)
  have f2 : (fi b p * (b % p)) % p = 1 := by
    unfold fi
    rw [show (b % p : Int) = (((b % p).toNat : Nat) : Int) from (Int.toNat_of_nonneg m0).symm, ← Int.natCast_mul, ← Int.natCast_emod, Int.toNat_natCast, f]
    rfl
  have g := Int.mul_ediv_add_emod (fi b p * (b % p)) p
  rw [f2] at g
  have g2 := Int.mul_ediv_add_emod b p
  refine ⟨fi b p * (b % p) / p + fi b p * (b / p), ?_⟩
  have e1 : fi b p * b = fi b p * (p * (b / p)) + fi b p * (b % p) := by rw [← Int.mul_add, g2]
  have e2 : fi b p * (p * (b / p)) = p * (fi b p * (b / p)) := Int.mul_left_comm _ _ _
  rw [Int.mul_add]
  omega
/-- two that make 1 with b are alike -/
theorem inv_uniq {x y b p : Int} (hx : p ∣ (x * b - 1)) (hy : p ∣ (y * b - 1)) : p ∣ (x - y) := by
  have h1 : p ∣ (y * (x * b - 1)) := Int.dvd_mul_of_dvd_right hx
  have h2 : p ∣ (x * (y * b - 1)) := Int.dvd_mul_of_dvd_right hy
  have e : x - y = y * (x * b - 1) - x * (y * b - 1) := by
    rw [Int.mul_sub, Int.mul_sub, Int.mul_left_comm y x b]
    omega
  rw [e]
  exact Int.dvd_sub h1 h2
theorem emod_of_dvd_sub {x y p : Int} (h : p ∣ (x - y)) : x % p = y % p := by
  obtain ⟨k, hk⟩ := h
  have e : x = y + p * k := by omega
  rw [e, Int.add_mul_emod_self_left]
/-- the residue of an entry modulo a prime; -3: the prime divides what is below -/
def resV (e : Int × Int × Int) (p : Nat) : Int := (e.1 + e.2.1 * fi e.2.2 p) % p
def resS (e : Int × Int × Int) (p : Nat) : Int := if (p : Int) ∣ e.2.2 then -3 else resV e p
theorem resV_le {e : Int × Int × Int} {p : Nat} (h : 0 < p) : 0 ≤ resV e p ∧ resV e p < p := by
  unfold resV
  exact ⟨Int.emod_nonneg _ (by omega), Int.emod_lt_of_pos _ (by omega)⟩
theorem gcd_pr {b : Int} {p : Nat} (hp : p ∈ prN) (h : ¬ (p : Int) ∣ b) : Int.gcd (p : Int) (b % p) = 1 := by
  have h3 : 3 ≤ p := by
    have : ∀ q ∈ prN, 3 ≤ q := by decide
    exact this p hp
  have hd := fi_one hp h
  have g1 := Int.gcd_dvd_left (a := (p : Int)) (b := b % p)
  have g2 := Int.gcd_dvd_right (a := (p : Int)) (b := b % p)
  have g3' : ∀ d : Int, d ∣ (p : Int) → d ∣ b % p → d ∣ b := by
    intro d q1 q2
    have e := Int.mul_ediv_add_emod b p
    have q3 : d ∣ (p : Int) * (b / p) + b % p := Int.dvd_add (Int.dvd_mul_of_dvd_left q1) q2
    rw [e] at q3
    exact q3
  have g3 := g3' _ g1 g2
  have g4 : ((Int.gcd (p : Int) (b % p) : Nat) : Int) ∣ 1 := by
    have e : (1 : Int) = fi b p * b - (fi b p * b - 1) := by omega
    rw [e]
    exact Int.dvd_sub (Int.dvd_mul_of_dvd_right g3) (Int.dvd_trans g1 hd)
  have := Int.eq_one_of_dvd_one (by omega) g4
  omega
section MODU
variable {w : xW} {e : Nat} {P : Nat → Prop} {E : eT} {n : Nat}
theorem T_modulo {c p : Nat} (hc : c ≤ 600) (he : w[e]? = some (eCell e)) (h : tab3 w (e + 1) P E) (hn : n < 39) (hP : P n) (ok : eOK c n (E n)) (hp : p ∈ prN) (hd : ¬ (p : Int) ∣ (E n).2.2) : xCall 73 [.ref e, .int (jI n), .long (jL p)] w (some (.long (jL (resV (E n) p))), w) := by
  have hpb : 3 ≤ p ∧ p ≤ 199 := by
    have : ∀ q ∈ prN, 3 ≤ q ∧ q ≤ 199 := by decide
    exact this p hp
  have b := ok.bounds hc hn
  obtain ⟨x, hx1, hx2, hx3⟩ := C_inverse b.2.2.1 (m := (p : Int)) (by omega) (by omega) (gcd_pr hp hd) w
  have hu := inv_uniq hx2 (fi_one hp hd)
  have hxx : (E n).2.1 * (x : Int) ≤ 1919190 * 199 := Int.mul_le_mul (by have := ok.2.1; omega) (by omega) (by omega) (by omega)
  have hxy : 0 ≤ (E n).2.1 * (x : Int) := Int.mul_nonneg ok.1 (by omega)
  have eq : ((E n).1 + (E n).2.1 * (x : Int)) % p = resV (E n) p := by
    unfold resV
    apply emod_of_dvd_sub
    have : (E n).1 + (E n).2.1 * (x : Int) - ((E n).1 + (E n).2.1 * fi (E n).2.2 p) = (E n).2.1 * ((x : Int) - fi (E n).2.2 p) := by
      rw [Int.mul_sub]
      omega
    rw [this]
    exact Int.dvd_mul_of_dvd_right hu
  refine E_73 (S_73_0 ⟨_, he, _, _, T_whole he h hn hP, _, he, _, _, T_above he h hn hP, _, he, _, _, T_below he h hn hP, _, _, hx3, ?_⟩)
  rw [jL_mul, jL_add]
  have hl := C_least (a := (E n).1 + (E n).2.1 * (x : Int)) (m := (p : Int)) s64 s64 (by omega) w
  rw [eq] at hl
  exact ⟨_, _, hl, rfl⟩
end MODU
theorem C_residueNow {c : Nat} {E : eT} {t : Int} {ws : Nat → Int} {me : memT} {w : xW} (h : cst E t ws me w) (ok : okS c E t ws me) {n p : Nat} (hn : (n : Int) ≤ t) (hp : p ∈ prN) : xCall 85 [.ref 0, .int (jI n), .int (jI p)] w (some (.int (jI (resS (E n) p))), w) := by
  obtain ⟨hC, h0, -, hR, hE, -⟩ := h
  obtain ⟨hc, ht1, ht2, hok, -⟩ := ok
  have hpb : 3 ≤ p ∧ p ≤ 199 := by
    have : ∀ q ∈ prN, 3 ≤ q ∧ q ≤ 199 := by decide
    exact this p hp
  have b := (hok n hn).bounds hc (by omega)
  refine E_85 (S_85_0 (bI_lt p 3 s32 s32 (fun c => by omega) (fun _ => ⟨_, h0, _, rfl, _, hC.e12, _, _, T_below hC.e12 hE (by omega) hn, ?_⟩)))
  rw [jI_toL s32, jL_remN b.2.2.1 (by omega) s64]
  have m0 := Int.emod_nonneg (E n).2.2 (b := (p : Int)) (by omega)
  have m1 := Int.emod_lt_of_pos (E n).2.2 (b := (p : Int)) (by omega)
  unfold resS
  refine ⟨ne_L p 0 s64 z64 (by omega), bL_ne _ 0 s64 z64 (fun z => ?_) (fun z => ?_)⟩
  · have hd : ¬ (p : Int) ∣ (E n).2.2 := fun q => z (Int.emod_eq_zero_of_dvd q)
    refine ⟨_, h0, _, rfl, _, hC.e12, _, _, T_modulo hc hC.e12 hE (by omega) hn (hok n hn) hp hd, ?_⟩
    rw [if_neg hd, jL_toI]
  · rw [if_pos (Int.dvd_of_emod_eq_zero z)]
    rfl
/-- the model's -/
theorem C_restOf {c : Nat} {E : eT} {t : Int} {ws : Nat → Int} {me : memT} {w : xW} (h : mst E t ws me w) (ok : okS c E t ws me) {n p : Nat} (hn : (n : Int) ≤ t) (hp : p ∈ prN) : xCall 214 [.ref 39, .ref 41, .int (jI n), .int (jI p)] w (some (.int (jI (resS (E n) p))), w) := by
  obtain ⟨hC, ⟨th, sw, sr, dr, h39⟩, -, ⟨f41, h41, k41⟩, -⟩ := h
  obtain ⟨hc, ht1, ht2, hok, -⟩ := ok
  have hpb : 3 ≤ p ∧ p ≤ 199 := by
    have : ∀ q ∈ prN, 3 ≤ q ∧ q ≤ 199 := by decide
    exact this p hp
  have hn39 : n < 39 := by omega
  have b := (hok n hn).bounds hc hn39
  have k := k41 n hn
  have i0 := ixin (k := 3 * n) (m := 117) (by omega) (by omega)
  have i1 := ixin (k := 3 * n + 1) (m := 117) (by omega) (by omega)
  have i2 := ixin (k := 3 * n + 2) (m := 117) (by omega) (by omega)
  rw [ixn (by omega)] at i0 i1 i2
  have b0 := Int.emod_nonneg (E n).2.2 (b := (p : Int)) (by omega)
  have b1 := Int.emod_lt_of_pos (E n).2.2 (b := (p : Int)) (by omega)
  have w0 := Int.emod_nonneg (E n).1 (b := (p : Int)) (by omega)
  have w1 := Int.emod_lt_of_pos (E n).1 (b := (p : Int)) (by omega)
  have a0 := Int.emod_nonneg (E n).2.1 (b := (p : Int)) (by omega)
  have a1 := Int.emod_lt_of_pos (E n).2.1 (b := (p : Int)) (by omega)
  refine E_214 (S_214_0 ?_)
  rw [ix1, ix2, ix0, ixn (k := 3 * n) (by omega), ixn (k := 3 * n + 1) (by omega), ixn (k := 3 * n + 2) (by omega)]
  refine ⟨_, _, h41, i2, ?_⟩
  rw [k.2.2]
  unfold resS
  refine ⟨_, _, C_rest b.2.2.1 (by omega) (by omega) w, bI_ne _ 0 s32 z32 (fun z => ⟨_, _, h41, i0, ?_⟩) (fun z => by rw [if_pos (Int.dvd_of_emod_eq_zero z)]; rfl)⟩
  rw [k.1]
  refine ⟨_, _, C_rest b.1 (by omega) (by omega) w, _, _, h41, i1, ?_⟩
  rw [k.2.1]
  have hd : ¬ (p : Int) ∣ (E n).2.2 := fun q => z (Int.emod_eq_zero_of_dvd q)
  rw [if_neg hd]
  have hpw := C_mpower (a := ((E n).2.2 % p).toNat) (n := p - 2) (p := p) (by omega) (by omega) (by omega) (by omega) w
  rw [Int.toNat_of_nonneg b0, show (((p - 2 : Nat) : Nat) : Int) = (p : Int) - 2 by omega] at hpw
  have hf := fi_le (b := (E n).2.2) (p := p) (by omega)
  have hprod : (E n).2.1 % p * fi (E n).2.2 p ≤ 199 * 199 := Int.mul_le_mul (by omega) (by omega) (by omega) (by omega)
  have hprod0 : 0 ≤ (E n).2.1 % p * fi (E n).2.2 p := Int.mul_nonneg a0 hf.1
  refine ⟨_, _, C_rest b.2.1 (by omega) (by omega) w, ?_⟩
  rw [show (2 : Int32) = jI 2 from rfl, jI_sub]
  refine ⟨_, _, hpw, ?_⟩
  rw [show (((E n).2.2 % p).toNat ^ (p - 2) % p : Nat) = (((E n).2.2 % p).toNat ^ (p - 2) % p : Nat) from rfl, show ((((E n).2.2 % p).toNat ^ (p - 2) % p : Nat) : Int) = fi (E n).2.2 p from rfl]
  rw [jI_toL (a := (E n).1 % p) s32, jI_toL (a := (E n).2.1 % p) s32, jI_toL (a := fi (E n).2.2 p) s32, jL_mul, jL_add]
  have hr := C_rest (a := (E n).1 % p + (E n).2.1 % p * fi (E n).2.2 p) (p := p) s64 (by omega) (by omega) w
  have eq : ((E n).1 % p + (E n).2.1 % p * fi (E n).2.2 p) % p = resV (E n) p := by
    unfold resV
    rw [Int.emod_add_emod, Int.add_emod, Int.mul_emod, Int.emod_emod_of_dvd _ (Int.dvd_refl _), ← Int.mul_emod, ← Int.add_emod]
  rw [eq] at hr
  exact ⟨_, _, hr, rfl⟩
