/-! ENTRIES -/
/-- what holds of an entry that is laid, after c calls -/
def eOK (c n : Nat) (e : Int × Int × Int) : Prop := 0 ≤ e.2.1 ∧ e.2.1 < e.2.2 ∧ e.2.2 ∣ rB n ∧ Int.gcd e.2.1 e.2.2 = 1 ∧ rW n - 9 * c - 1 ≤ e.1 ∧ e.1 ≤ rW n + 9 * c + 1
def okS (c : Nat) (E : eT) (t : Int) (ws : Nat → Int) (me : memT) : Prop := c ≤ 600 ∧ -1 ≤ t ∧ t ≤ 38 ∧ (∀ n : Nat, (n : Int) ≤ t → eOK c n (E n)) ∧ (∀ n : Nat, (n : Int) ≤ t → 0 ≤ ws n ∧ ws n ≤ 3) ∧ me.length ≤ 20 ∧ ∀ q ∈ me, 0 ≤ q.1 ∧ q.1 ≤ t ∧ isPr q.2.1 ∧ 0 ≤ q.2.2 ∧ q.2.2 < q.2.1
theorem rB_pos : ∀ n : Nat, n < 39 → 1 ≤ rB n ∧ rB n ≤ 1919190 := by decide +kernel
theorem rW_le : ∀ n : Nat, n < 39 → -500000000000000 ≤ rW n ∧ rW n ≤ 500000000000000 := by decide +kernel
theorem rA_le : ∀ n : Nat, n < 39 → 0 ≤ rA n ∧ rA n < rB n := by decide +kernel
theorem eOK.bounds {c n : Nat} {e : Int × Int × Int} (h : eOK c n e) (hc : c ≤ 600) (hn : n < 39) : in64 e.1 ∧ in64 e.2.1 ∧ in64 e.2.2 ∧ 0 < e.2.2 ∧ e.2.2 ≤ 1919190 ∧ -500000000010000 ≤ e.1 ∧ e.1 ≤ 500000000010000 := by
  obtain ⟨h1, h2, h3, -, h5, h6⟩ := h
  have hb := rB_pos n hn
  have hw := rW_le n hn
  have hle : e.2.2 ≤ rB n := Int.le_of_dvd (by omega) h3
  exact ⟨⟨by omega, by omega⟩, ⟨by omega, by omega⟩, ⟨by omega, by omega⟩, by omega, by omega, by omega, by omega⟩
theorem rE_bounds {n : Nat} (hn : n < 39) : in64 (rW n) ∧ in64 (rA n) ∧ in64 (rB n) := by
  have hb := rB_pos n hn
  have hw := rW_le n hn
  have ha := rA_le n hn
  exact ⟨⟨by omega, by omega⟩, ⟨by omega, by omega⟩, ⟨by omega, by omega⟩⟩
def eCell (e : Nat) : xC := .inr (4, [.ref (e + 1), .ref (e + 2), .ref (e + 3), .ref (e + 4)])
theorem CS.e7 {w : xW} (h : CS w) : w[7]? = some (eCell 7) := by obtain ⟨c, h1, h2⟩ := h.2 7 (by decide); rw [h1, show c = _ from h2]; rfl
theorem CS.e12 {w : xW} (h : CS w) : w[12]? = some (eCell 12) := by obtain ⟨c, h1, h2⟩ := h.2 12 (by decide); rw [h1, show c = _ from h2]; rfl
theorem CS.e17 {w : xW} (h : CS w) : w[17]? = some (eCell 17) := by obtain ⟨c, h1, h2⟩ := h.2 17 (by decide); rw [h1, show c = _ from h2]; rfl
section TAB
variable {w : xW} {e : Nat} {p : Nat → Prop} {E : eT} {n : Nat}
theorem T_whole (he : w[e]? = some (eCell e)) (h : tab3 w (e + 1) p E) (hn : n < 39) (hp : p n) : xCall 29 [.ref e, .int (jI n)] w (some (.long (jL (E n).1)), w) := by
  obtain ⟨f, g, k, h1, h2, h3, hv⟩ := h
  have hx : in32 (n : Int) := s32
  refine E_29 (S_29_0 ⟨_, _, C_fits hx w, bz_0 (fun c => by omega) (fun _ => ⟨_, he, _, rfl, _, _, h1, jI_in hx (by omega) (by omega), ?_⟩)⟩)
  rw [jI_nat hx, Int.toNat_natCast, (hv n hp).1]
theorem T_above (he : w[e]? = some (eCell e)) (h : tab3 w (e + 1) p E) (hn : n < 39) (hp : p n) : xCall 30 [.ref e, .int (jI n)] w (some (.long (jL (E n).2.1)), w) := by
  obtain ⟨f, g, k, h1, h2, h3, hv⟩ := h
  have hx : in32 (n : Int) := s32
  refine E_30 (S_30_0 ⟨_, _, C_fits hx w, bz_0 (fun c => by omega) (fun _ => ⟨_, he, _, rfl, _, _, h2, jI_in hx (by omega) (by omega), ?_⟩)⟩)
  rw [jI_nat hx, Int.toNat_natCast, (hv n hp).2.1]
theorem T_below (he : w[e]? = some (eCell e)) (h : tab3 w (e + 1) p E) (hn : n < 39) (hp : p n) : xCall 31 [.ref e, .int (jI n)] w (some (.long (jL (E n).2.2)), w) := by
  obtain ⟨f, g, k, h1, h2, h3, hv⟩ := h
  have hx : in32 (n : Int) := s32
  refine E_31 (S_31_0 ⟨_, _, C_fits hx w, bz_0 (fun c => by omega) (fun _ => ⟨_, he, _, rfl, _, _, h3, jI_in hx (by omega) (by omega), ?_⟩)⟩)
  rw [jI_nat hx, Int.toNat_natCast, (hv n hp).2.2]
end TAB
theorem T_alike {w : xW} {e d : Nat} {p q : Nat → Prop} {E F : eT} {n : Nat} (he : w[e]? = some (eCell e)) (hd : w[d]? = some (eCell d)) (h : tab3 w (e + 1) p E) (g : tab3 w (d + 1) q F) (hn : n < 39) (hp : p n) (hq : q n) (b : in64 (E n).1 ∧ in64 (E n).2.1 ∧ in64 (E n).2.2) (b' : in64 (F n).1 ∧ in64 (F n).2.1 ∧ in64 (F n).2.2) : xCall 28 [.ref e, .int (jI n), .ref d] w (some (.int (bz (E n = F n))), w) := by
  have key : E n = F n ↔ (E n).1 = (F n).1 ∧ (E n).2.1 = (F n).2.1 ∧ (E n).2.2 = (F n).2.2 := by
    rw [Prod.ext_iff, Prod.ext_iff]
  refine E_28 (S_28_0 ⟨_, he, _, _, T_whole he h hn hp, _, hd, _, _, T_whole hd g hn hq, bL_ne _ _ b.1 b'.1 (fun c => by rw [bz_f (fun z => c (key.mp z).1)]) (fun c => ⟨_, he, _, _, T_above he h hn hp, _, hd, _, _, T_above hd g hn hq, bL_ne _ _ b.2.1 b'.2.1 (fun c2 => by rw [bz_f (fun z => c2 (key.mp z).2.1)]) (fun c2 => ⟨_, he, _, _, T_below he h hn hp, _, hd, _, _, T_below hd g hn hq, bL_ne _ _ b.2.2 b'.2.2 (fun c3 => by rw [bz_f (fun z => c3 (key.mp z).2.2)]) (fun c3 => by rw [bz_t (key.mpr ⟨c, c2, c3⟩)])⟩)⟩)⟩)
theorem C_isRight {c : Nat} {E : eT} {t : Int} {ws : Nat → Int} {me : memT} {w : xW} (h : cst E t ws me w) (ok : okS c E t ws me) {n : Nat} (hn : (n : Int) ≤ t) : xCall 27 [.ref 0, .int (jI n)] w (some (.int (bz (E n = rE n))), w) := by
  obtain ⟨hC, h0, -, hR, hE, -⟩ := h
  obtain ⟨hc, ht1, ht2, hok, -⟩ := ok
  have hb := (hok n hn).bounds hc (by omega)
  refine E_27 (S_27_0 ⟨_, h0, _, rfl, _, rfl, _, hC.e12, _, _, T_alike hC.e12 hC.e7 hE hR (by omega) hn (by omega) ⟨hb.1, hb.2.1, hb.2.2.1⟩ (rE_bounds (by omega)), bz_01 _, rfl⟩)
/-- whether all entries below n are right -/
def allR (E : eT) (n : Nat) : Prop := ∀ k, k < n → E k = rE k
def allRb (E : eT) (n : Nat) : Bool := (List.range n).all (fun k => decide (E k = rE k))
theorem allRb_iff {E : eT} {n : Nat} : allRb E n = true ↔ allR E n := by
  unfold allRb allR
  rw [List.all_eq_true]
  exact ⟨fun h k hk => by simpa using h k (List.mem_range.mpr hk), fun h k hk => by simpa using h k (List.mem_range.mp hk)⟩
theorem L_allRight {c : Nat} {E : eT} {t : Int} {ws : Nat → Int} {me : memT} {w : xW} (h : cst E t ws me w) (ok : okS c E t ws me) {n : Nat} (hn : (n : Int) ≤ t + 1) : ∀ (k i : Nat), i + k = n → allR E i →
    xGo 26 2 [some (.ref 0), some (.int (jI n)), some (.int (jI i))] [] w (some (.int (bz (allRb E n = true))), w) := by
  have ht2 := ok.2.2.1
  intro k
  induction k with
  | zero =>
    intro i hi hr
    have e : i = n := by omega
    subst e
    refine S_26_2 (bI_le i i s32 s32 (fun _ => by rw [bz_t (allRb_iff.mpr hr)]) (fun c => by omega))
  | succ k ih =>
    intro i hi hr
    refine S_26_2 (bI_le n i s32 s32 (fun c => by omega) (fun _ => ⟨_, h.2.1, _, _, C_isRight h ok (by omega), ?_⟩))
    refine bz_n (fun g v e => ?_) (fun g => ?_)
    · rw [show (1 : Int32) = jI 1 from rfl, jI_add] at e
      subst e
      exact ih (i + 1) (by omega) (fun j hj => by
        by_cases q : j < i
        · exact hr j q
        · have : j = i := by omega
          subst this
          exact g)
    · rw [bz_f]
      intro z
      exact g (allRb_iff.mp z i (by omega))
theorem C_allRight {c : Nat} {E : eT} {t : Int} {ws : Nat → Int} {me : memT} {w : xW} (h : cst E t ws me w) (ok : okS c E t ws me) {n : Nat} (hn : (n : Int) ≤ t + 1) : xCall 26 [.ref 0, .int (jI n)] w (some (.int (bz (allRb E n = true))), w) :=
  E_26 (S_26_0 (L_allRight h ok hn n 0 (by omega) (fun _ h => absurd h (by omega))))
