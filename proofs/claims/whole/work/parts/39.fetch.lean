/-! a fraction that is worked with; often -/
theorem CS.fr36 {w : xW} (hC : CS w) : ∃ x y z : Int, w[36]? = some (frac x y z) := by
  obtain ⟨c, h1, h2⟩ := hC.2 36 (by decide)
  obtain ⟨x, y, z, rfl⟩ := h2
  obtain ⟨x', -, rfl⟩ := jL_of x
  obtain ⟨y', -, rfl⟩ := jL_of y
  obtain ⟨z', -, rfl⟩ := jL_of z
  exact ⟨x', y', z', h1⟩
theorem fw {w : xW} (hC : CS w) (x y z : Int) : CS (w.set 36 (frac x y z)) ∧ (w.set 36 (frac x y z))[36]? = some (frac x y z) ∧ xsame [36] w (w.set 36 (frac x y z)) := by
  obtain ⟨a, b, c, h⟩ := hC.fr36
  exact ⟨hC.set ⟨_, _, _, rfl⟩, set_get h, xsame.set (by decide)⟩
theorem fw0 {w : xW} {x y z : Int} (h : w[36]? = some (frac x y z)) : fJ w 36 5 0 x ∧ fJ w 36 5 1 y ∧ fJ w 36 5 2 z := ⟨⟨_, h, rfl⟩, ⟨_, h, rfl⟩, ⟨_, h, rfl⟩⟩
theorem nf_id {x a b : Int} (h0 : 0 ≤ a) (h1 : a < b) (hg : Int.gcd a b = 1) : nfW x a b = x ∧ nfA a b = a ∧ nfB a b = b := by
  have e1 : a / b = 0 := Int.ediv_eq_zero_of_lt h0 h1
  have e2 : a % b = a := Int.emod_eq_of_lt h0 h1
  have e3 : nfG a b = 1 := by
    unfold nfG
    rw [e2, Int.gcd_comm, hg]
    rfl
  unfold nfW nfA nfB
  rw [e1, e2, e3, Int.ediv_one, Int.ediv_one]
  exact ⟨by omega, rfl, rfl⟩
section FE
variable {c : Nat} {E : eT} {t : Int} {ws : Nat → Int} {me : memT} {w : xW}
theorem cst.f36 (h : cst E t ws me w) (x y z : Int) : cst E t ws me (w.set 36 (frac x y z)) := h.same (S := [36]) (xsame.set (by decide)) (by decide) (fw h.1 x y z).1
theorem C_fetchN (h : cst E t ws me w) (ok : okS c E t ws me) {n : Int} (h0 : 0 ≤ n) (hn : n ≤ t) : xCall 100 [.ref 12, .int (jI n), .ref 36] w (none, w.set 36 (frac (E n.toNat).1 (E n.toNat).2.1 (E n.toNat).2.2)) := by
  have ht := ok.2.2.1
  have b := ok_e ok h0 hn
  have a := ok.2.2.2.1 n.toNat (by omega)
  obtain ⟨x, y, z, hf⟩ := h.1.fr36
  have k := C_become hf (nw := (E n.toNat).1) b.2.2.2.1 b.2.1 b.2.2.1
  obtain ⟨e1, e2, e3⟩ := nf_id (x := (E n.toNat).1) a.1 a.2.1 a.2.2.2.1
  rw [e1, e2, e3] at k
  exact Z_100 h.1 (Or.inr (Or.inl rfl)) ⟨_, _, N_whole h ht h0 hn, h.1, _, _, N_above h ht h0 hn, h.1, _, _, N_below h ht h0 hn, h.1, ko_36 h.1, _, k, (fw h.1 _ _ _).1, rfl⟩
theorem rG : ∀ n : Nat, n < 39 → Int.gcd (rA n) (rB n) = 1 := by decide +kernel
theorem C_fetchR (h : cst E t ws me w) {n : Int} (h0 : 0 ≤ n) (hn : n ≤ 38) : xCall 100 [.ref 7, .int (jI n), .ref 36] w (none, w.set 36 (frac (rW n.toNat) (rA n.toNat) (rB n.toNat))) := by
  have b := rE_bounds (n := n.toNat) (by omega)
  have a := rA_le n.toNat (by omega)
  have a2 := rB_pos n.toNat (by omega)
  obtain ⟨x, y, z, hf⟩ := h.1.fr36
  have k := C_become hf (nw := rW n.toNat) (show 0 < rB n.toNat by omega) b.2.1 b.2.2
  obtain ⟨e1, e2, e3⟩ := nf_id (x := rW n.toNat) a.1 a.2 (rG n.toNat (by omega))
  rw [e1, e2, e3] at k
  exact Z_100 h.1 (Or.inl rfl) ⟨_, _, R_whole h h0 hn, h.1, _, _, R_above h h0 hn, h.1, _, _, R_below h h0 hn, h.1, ko_36 h.1, _, k, (fw h.1 _ _ _).1, rfl⟩
theorem C_isLaid (h : cst E t ws me w) (ok : okS c E t ws me) {n : Int} (hn : in32 n) : xCall 99 [.ref 0, .int (jI n)] w (some (.int (bz (0 ≤ n ∧ n ≤ t))), w) := by
  have ht1 := ok.2.1
  have ht := ok.2.2.1
  exact Z_99 h.1 ⟨hn, fun d => by rw [bz_f (by omega)]; rfl, fun d => ⟨_, h.top, s32, fun e => by rw [bz_f (by omega)]; rfl, fun e => by rw [bz_t (by omega)]; rfl⟩⟩
/-- the sign of an entry -/
def sgE (e : Int × Int × Int) : Int := if e.1 < 0 then -1 else if e.1 = 0 ∧ e.2.1 = 0 then 0 else 1
theorem sgE_b (e : Int × Int × Int) : -1 ≤ sgE e ∧ sgE e ≤ 1 := by
  unfold sgE
  split
  · omega
  · split <;> omega
theorem C_signN (h : cst E t ws me w) (ok : okS c E t ws me) {n : Int} (h0 : 0 ≤ n) (hn : n ≤ t) : xCall 63 [.ref 12, .int (jI n)] w (some (.int (jI (sgE (E n.toNat)))), w) := by
  have ht := ok.2.2.1
  have b := ok_e ok h0 hn
  unfold sgE
  exact Z_63 h.1 (Or.inr (Or.inl rfl)) ⟨_, _, N_whole h ht h0 hn, h.1, b.1, fun d => ⟨_, _, N_whole h ht h0 hn, h.1, b.1, fun e => by rw [if_neg (by omega), if_neg (by omega)], fun e => ⟨_, _, N_above h ht h0 hn, h.1, b.2.1, fun f => by rw [if_neg (by omega), if_neg (by omega)], fun f => by rw [if_neg (by omega), if_pos ⟨e, f⟩]⟩⟩, fun d => by rw [if_pos d]⟩
theorem C_msign (h : mst E t ws me w) (ok : okS c E t ws me) {n : Int} (h0 : 0 ≤ n) (hn : n ≤ t) : xCall 209 [.ref 39, .int (jI n)] w (some (.int (jI (sgE (E n.toNat)))), w) := by
  have ht := ok.2.2.1
  have b := ok_e ok h0 hn
  have a := ok.2.2.2.1 n.toNat (by omega)
  have a1 := a.1
  have k := M_nw h ht h0 hn rfl
  unfold sgE
  refine Z_209 h.1 ⟨by omega, _, k.1, b.1, fun d => ⟨by omega, _, k.1, b.1, fun e => by rw [if_neg (by omega), if_neg (by omega)], fun e => ⟨by omega, _, k.2.1, b.2.1, fun f => ?_, fun f => ?_⟩⟩, fun d => by rw [if_pos d]⟩
  · rw [if_neg (by omega), if_pos (by omega)]
  · rw [if_neg (by omega), if_neg (by omega)]
end FE
