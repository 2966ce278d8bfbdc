/-! A RUN: what holds after c calls; each call of both sides; laid by wip/whole/grun.py -/
def sz68 : List Nat := [16, 1, 1764, 3, 3, 39, 39, 4, 39, 39, 39, 3, 4, 39, 39, 39, 3, 4, 39, 39, 39, 3, 39, 3, 4, 20, 20, 20, 4, 200, 200, 5, 100, 100, 2, 28, 3, 40, 40, 34, 117, 117, 39, 1680, 46, 40, 40, 63, 117, 200, 200, 200, 200, 5, 27, 27, 32, 32, 26, 32, 9, 9, 3, 39, 32, 24, 24, 1]
theorem cshp_sz {i : Nat} {c : xC} (hi : i < 68) (h : cshp i c) : xsz c = sz68.getD i 0 := by
  match i, hi with
  | 0, _ => obtain ⟨_, rfl⟩ := h; rfl
  | 1, _ => rw [show c = _ from h]; rfl
  | 2, _ => obtain ⟨_, rfl⟩ := h; rfl
  | 3, _ => obtain ⟨_, _, _, rfl⟩ := h; rfl
  | 4, _ => obtain ⟨_, rfl⟩ := h; rfl
  | 5, _ => obtain ⟨_, rfl⟩ := h; rfl
  | 6, _ => obtain ⟨_, rfl⟩ := h; rfl
  | 7, _ => rw [show c = _ from h]; rfl
  | 8, _ => obtain ⟨_, rfl⟩ := h; rfl
  | 9, _ => obtain ⟨_, rfl⟩ := h; rfl
  | 10, _ => obtain ⟨_, rfl⟩ := h; rfl
  | 11, _ => obtain ⟨_, _, _, rfl⟩ := h; rfl
  | 12, _ => rw [show c = _ from h]; rfl
  | 13, _ => obtain ⟨_, rfl⟩ := h; rfl
  | 14, _ => obtain ⟨_, rfl⟩ := h; rfl
  | 15, _ => obtain ⟨_, rfl⟩ := h; rfl
  | 16, _ => obtain ⟨_, _, _, rfl⟩ := h; rfl
  | 17, _ => rw [show c = _ from h]; rfl
  | 18, _ => obtain ⟨_, rfl⟩ := h; rfl
  | 19, _ => obtain ⟨_, rfl⟩ := h; rfl
  | 20, _ => obtain ⟨_, rfl⟩ := h; rfl
  | 21, _ => obtain ⟨_, _, _, rfl⟩ := h; rfl
  | 22, _ => obtain ⟨_, rfl⟩ := h; rfl
  | 23, _ => rw [show c = _ from h]; rfl
  | 24, _ => obtain ⟨_, rfl⟩ := h; rfl
  | 25, _ => obtain ⟨_, rfl⟩ := h; rfl
  | 26, _ => obtain ⟨_, rfl⟩ := h; rfl
  | 27, _ => obtain ⟨_, rfl⟩ := h; rfl
  | 28, _ => obtain ⟨_, _, rfl⟩ := h; rfl
  | 29, _ => obtain ⟨_, rfl⟩ := h; rfl
  | 30, _ => obtain ⟨_, rfl⟩ := h; rfl
  | 31, _ => obtain ⟨_, _, rfl⟩ := h; rfl
  | 32, _ => obtain ⟨_, rfl⟩ := h; rfl
  | 33, _ => obtain ⟨_, rfl⟩ := h; rfl
  | 34, _ => obtain ⟨_, rfl⟩ := h; rfl
  | 35, _ => obtain ⟨_, rfl⟩ := h; rfl
  | 36, _ => obtain ⟨_, _, _, rfl⟩ := h; rfl
  | 37, _ => obtain ⟨_, rfl⟩ := h; rfl
  | 38, _ => obtain ⟨_, rfl⟩ := h; rfl
  | 39, _ => obtain ⟨_, _, _, _, _, _, _, rfl⟩ := h; rfl
  | 40, _ => obtain ⟨_, rfl⟩ := h; rfl
  | 41, _ => obtain ⟨_, rfl⟩ := h; rfl
  | 42, _ => obtain ⟨_, rfl⟩ := h; rfl
  | 43, _ => obtain ⟨_, rfl⟩ := h; rfl
  | 44, _ => obtain ⟨_, rfl⟩ := h; rfl
  | 45, _ => obtain ⟨_, rfl⟩ := h; rfl
  | 46, _ => obtain ⟨_, rfl⟩ := h; rfl
  | 47, _ => obtain ⟨_, rfl⟩ := h; rfl
  | 48, _ => obtain ⟨_, rfl⟩ := h; rfl
  | 49, _ => obtain ⟨_, rfl⟩ := h; rfl
  | 50, _ => obtain ⟨_, rfl⟩ := h; rfl
  | 51, _ => obtain ⟨_, rfl⟩ := h; rfl
  | 52, _ => obtain ⟨_, rfl⟩ := h; rfl
  | 53, _ => obtain ⟨_, rfl⟩ := h; rfl
  | 54, _ => obtain ⟨_, rfl⟩ := h; rfl
  | 55, _ => obtain ⟨_, rfl⟩ := h; rfl
  | 56, _ => obtain ⟨_, rfl⟩ := h; rfl
  | 57, _ => obtain ⟨_, rfl⟩ := h; rfl
  | 58, _ => obtain ⟨_, rfl⟩ := h; rfl
  | 59, _ => obtain ⟨_, rfl⟩ := h; rfl
  | 60, _ => obtain ⟨_, rfl⟩ := h; rfl
  | 61, _ => obtain ⟨_, rfl⟩ := h; rfl
  | 62, _ => obtain ⟨_, rfl⟩ := h; rfl
  | 63, _ => obtain ⟨_, rfl⟩ := h; rfl
  | 64, _ => obtain ⟨_, rfl⟩ := h; rfl
  | 65, _ => obtain ⟨_, rfl⟩ := h; rfl
  | 66, _ => obtain ⟨_, rfl⟩ := h; rfl
  | 67, _ => obtain ⟨_, rfl⟩ := h; rfl
  | n + 68, h => exact absurd h (by omega)
theorem CS.sl {w : xW} (hC : CS w) (hl : w.length = 68) : xsl w = 6480 := by
  have e : w.map xsz = sz68 := by
    apply List.ext_getElem?
    intro i
    rw [List.getElem?_map]
    by_cases q : i < 68
    · obtain ⟨c, h1, h2⟩ := hC.2 i q
      rw [h1, Option.map_some, cshp_sz q h2, List.getD_eq_getElem?_getD, List.getElem?_eq_getElem (show i < sz68.length from q)]
      rfl
    · rw [List.getElem?_eq_none (by omega), List.getElem?_eq_none (show sz68.length ≤ i from Nat.le_of_not_lt q)]
      rfl
  unfold xsl
  rw [e]
  decide
theorem ok_up {c : Nat} {E : eT} {t : Int} {ws : Nat → Int} {me : memT} (ok : okS c E t ws me) (hc : c + 1 ≤ 600) : okS (c + 1) E t ws me := by
  obtain ⟨h1, h2, h3, h4, h5⟩ := ok
  refine ⟨hc, h2, h3, fun n hn => ?_, h5⟩
  obtain ⟨a, b, d, e, f, g⟩ := h4 n hn
  exact ⟨a, b, d, e, by omega, by omega⟩
theorem ok_re {c : Nat} {E : eT} {t : Int} {ws : Nat → Int} {me : memT} (ok : okS c E t ws me) (n p : Int) : okS c E t ws (reM E t me n p) := by
  unfold reM
  split
  · rename_i hv
    obtain ⟨h1, h2, h3, h4, h5, h6, h7⟩ := ok
    have pb := prN_b _ hv.2.1.2
    have rl := (resS_le (e := E n.toNat) (p := p.toNat) (by omega)).2
    have en : 0 ≤ n ∧ n ≤ t ∧ isPr p ∧ 0 ≤ resS (E n.toNat) p.toNat ∧ resS (E n.toNat) p.toNat < p := ⟨hv.1.1, hv.2.2.1, hv.2.1, hv.2.2.2, by have := hv.2.1.1; omega⟩
    refine ⟨h1, h2, h3, h4, h5, ?_, ?_⟩
    · unfold memR
      split
      · rw [List.length_set]; exact h6
      · rw [List.length_append]
        split
        · rw [List.length_drop]; simp; omega
        · simp; omega
    · unfold memR
      intro q hq
      split at hq
      · rcases List.mem_or_eq_of_mem_set hq with z | z
        · exact h7 q z
        · rw [z]; exact en
      · rcases List.mem_append.mp hq with z | z
        · split at z
          · exact h7 q (List.mem_of_mem_drop z)
          · exact h7 q z
        · rw [List.mem_singleton.mp z]; exact en
  · exact ok
/-- after c calls -/
def Inv (c : Nat) (w : xW) : Prop := w.length = 68 ∧ ∃ E t ws me, okS c E t ws me ∧ cst E t ws me w ∧ mst E t ws me w
/-- the same call of both sides -/
def Sp (c kc km : Nat) (as : List Value) (v : Value) (w : xW) : Prop := ∃ w1 w2, xCall kc (.ref 0 :: as) w (some v, w1) ∧ xCall km (.ref 39 :: as) w1 (some v, w2) ∧ CS w1 ∧ w1.length = 68 ∧ Inv (c + 1) w2
theorem Inv.cs {c : Nat} {w : xW} (h : Inv c w) : CS w := by
  obtain ⟨-, E, t, ws, me, -, h1, -⟩ := h
  exact h1.1
theorem Sp.of {c kc km : Nat} {as : List Value} {v : Value} {w : xW} {E E' : eT} {t t' : Int} {ws ws' : Nat → Int} {me me' : memT} (hl : w.length = 68) (h1 : cst E t ws me w) (h2 : mst E t ws me w) (hc : cAns E t ws me E' t' ws' me' kc as v) (hm : mAns E t ws me E' t' ws' me' km as v) (ok : okS (c + 1) E' t' ws' me') : Sp c kc km as v w := by
  obtain ⟨w1, a1, a2, a3⟩ := hc w h1
  have m1 : mst E t ws me w1 := h2.same a3 (by decide) a2.1
  obtain ⟨w2, b1, b2, b3⟩ := hm w1 m1
  exact ⟨w1, w2, a1, b1, a2.1, a3.1.trans hl, b3.1.trans (a3.1.trans hl), E', t', ws', me', ok, a2.same b3 (by decide) b2.1, b2⟩
section RUN
variable {c : Nat} {w : xW}
theorem A_lay (h : Inv c w) (hc : c < 520) (x0 x1 : Int32) : ∃ v : Int32, Sp c 23 197 [.int x0, .int x1] (.int v) w := by
  obtain ⟨hl, E, t, ws, me, ok, h1, h2⟩ := h
  obtain ⟨z0, i0, rfl⟩ := jI_of x0
  obtain ⟨z1, i1, rfl⟩ := jI_of x1
  exact ⟨_, Sp.of hl h1 h2 (c_lay ok i0 i1) (m_lay ok i0 i1) (ok_up (ok_ly ok _ _) (by omega))⟩
theorem A_relay (h : Inv c w) (hc : c < 520) (x0 x1 : Int32) : ∃ v : Int32, Sp c 58 203 [.int x0, .int x1] (.int v) w := by
  obtain ⟨hl, E, t, ws, me, ok, h1, h2⟩ := h
  obtain ⟨z0, i0, rfl⟩ := jI_of x0
  obtain ⟨z1, i1, rfl⟩ := jI_of x1
  exact ⟨_, Sp.of hl h1 h2 (c_relay ok i0 i1) (m_relay ok i0 i1) (ok_up (ok_rl ok _ _) (by omega))⟩
theorem A_spoil (h : Inv c w) (hc : c < 520) (x0 x1 : Int32) : ∃ v : Int32, Sp c 59 204 [.int x0, .int x1] (.int v) w := by
  obtain ⟨hl, E, t, ws, me, ok, h1, h2⟩ := h
  obtain ⟨z0, i0, rfl⟩ := jI_of x0
  obtain ⟨z1, i1, rfl⟩ := jI_of x1
  exact ⟨_, Sp.of hl h1 h2 (c_spoil ok (by omega) i0 i1) (m_spoil ok (by omega) i0 i1) (ok_slE ok (by omega) _ _)⟩
theorem A_heal (h : Inv c w) (hc : c < 520) (x0 : Int32) : ∃ v : Int32, Sp c 75 243 [.int x0] (.int v) w := by
  obtain ⟨hl, E, t, ws, me, ok, h1, h2⟩ := h
  obtain ⟨z0, i0, rfl⟩ := jI_of x0
  exact ⟨_, Sp.of hl h1 h2 (c_heal ok i0) (m_heal ok i0) (ok_up (ok_he ok _) (by omega))⟩
theorem A_way (h : Inv c w) (hc : c < 520) (x0 : Int32) : ∃ v : Int32, Sp c 78 220 [.int x0] (.int v) w := by
  obtain ⟨hl, E, t, ws, me, ok, h1, h2⟩ := h
  obtain ⟨z0, i0, rfl⟩ := jI_of x0
  exact ⟨_, Sp.of hl h1 h2 (c_way ok i0) (m_way ok i0) (ok_up ok (by omega))⟩
theorem A_right (h : Inv c w) (hc : c < 520) (x0 : Int32) : ∃ v : Int32, Sp c 79 221 [.int x0] (.int v) w := by
  obtain ⟨hl, E, t, ws, me, ok, h1, h2⟩ := h
  obtain ⟨z0, i0, rfl⟩ := jI_of x0
  exact ⟨_, Sp.of hl h1 h2 (c_right ok i0) (m_right ok i0) (ok_up ok (by omega))⟩
theorem A_agree (h : Inv c w) (hc : c < 520) (x0 : Int32) : ∃ v : Int32, Sp c 80 222 [.int x0] (.int v) w := by
  obtain ⟨hl, E, t, ws, me, ok, h1, h2⟩ := h
  obtain ⟨z0, i0, rfl⟩ := jI_of x0
  exact ⟨_, Sp.of hl h1 h2 (c_agree ok i0) (m_agree ok i0) (ok_up ok (by omega))⟩
theorem A_prime (h : Inv c w) (hc : c < 520) (x0 x1 : Int32) : ∃ v : Int32, Sp c 81 223 [.int x0, .int x1] (.int v) w := by
  obtain ⟨hl, E, t, ws, me, ok, h1, h2⟩ := h
  obtain ⟨z0, i0, rfl⟩ := jI_of x0
  obtain ⟨z1, i1, rfl⟩ := jI_of x1
  exact ⟨_, Sp.of hl h1 h2 (c_prime i0 i1) (m_prime i0 i1) (ok_up ok (by omega))⟩
theorem A_whole (h : Inv c w) (hc : c < 520) (x0 : Int32) : ∃ v : Int64, Sp c 82 224 [.int x0] (.long v) w := by
  obtain ⟨hl, E, t, ws, me, ok, h1, h2⟩ := h
  obtain ⟨z0, i0, rfl⟩ := jI_of x0
  exact ⟨_, Sp.of hl h1 h2 (c_whole i0) (m_whole i0) (ok_up ok (by omega))⟩
theorem A_residue (h : Inv c w) (hc : c < 520) (x0 x1 : Int32) : ∃ v : Int32, Sp c 83 227 [.int x0, .int x1] (.int v) w := by
  obtain ⟨hl, E, t, ws, me, ok, h1, h2⟩ := h
  obtain ⟨z0, i0, rfl⟩ := jI_of x0
  obtain ⟨z1, i1, rfl⟩ := jI_of x1
  exact ⟨_, Sp.of hl h1 h2 (c_residue ok i0 i1) (m_residue ok i0 i1) (ok_up (ok_re ok _ _) (by omega))⟩
theorem A_byPowers (h : Inv c w) (hc : c < 520) (x0 x1 : Int32) : ∃ v : Int32, Sp c 90 231 [.int x0, .int x1] (.int v) w := by
  obtain ⟨hl, E, t, ws, me, ok, h1, h2⟩ := h
  obtain ⟨z0, i0, rfl⟩ := jI_of x0
  obtain ⟨z1, i1, rfl⟩ := jI_of x1
  exact ⟨_, Sp.of hl h1 h2 (c_byPowers i0 i1) (m_byPowers i0 i1) (ok_up ok (by omega))⟩
theorem A_memo (h : Inv c w) (hc : c < 520) (x0 x1 : Int32) : ∃ v : Int32, Sp c 92 232 [.int x0, .int x1] (.int v) w := by
  obtain ⟨hl, E, t, ws, me, ok, h1, h2⟩ := h
  obtain ⟨z0, i0, rfl⟩ := jI_of x0
  obtain ⟨z1, i1, rfl⟩ := jI_of x1
  exact ⟨_, Sp.of hl h1 h2 (c_memo ok i0 i1) (m_memo ok i0 i1) (ok_up ok (by omega))⟩
theorem A_often (h : Inv c w) (hc : c < 520) (x0 x1 : Int32) : ∃ v : Int32, Sp c 98 234 [.int x0, .int x1] (.int v) w := by
  obtain ⟨hl, E, t, ws, me, ok, h1, h2⟩ := h
  obtain ⟨z0, i0, rfl⟩ := jI_of x0
  obtain ⟨z1, i1, rfl⟩ := jI_of x1
  exact ⟨_, Sp.of hl h1 h2 (c_often ok i0 i1) (m_often ok i0 i1) (ok_up ok (by omega))⟩
theorem A_kummer (h : Inv c w) (hc : c < 520) (x0 x1 x2 : Int32) : ∃ v : Int32, Sp c 103 237 [.int x0, .int x1, .int x2] (.int v) w := by
  obtain ⟨hl, E, t, ws, me, ok, h1, h2⟩ := h
  obtain ⟨z0, i0, rfl⟩ := jI_of x0
  obtain ⟨z1, i1, rfl⟩ := jI_of x1
  obtain ⟨z2, i2, rfl⟩ := jI_of x2
  exact ⟨_, Sp.of hl h1 h2 (c_kummer ok i0 i1 i2) (m_kummer ok i0 i1 i2) (ok_up ok (by omega))⟩
theorem A_kummerTwice (h : Inv c w) (hc : c < 520) (x0 x1 x2 : Int32) : ∃ v : Int32, Sp c 104 238 [.int x0, .int x1, .int x2] (.int v) w := by
  obtain ⟨hl, E, t, ws, me, ok, h1, h2⟩ := h
  obtain ⟨z0, i0, rfl⟩ := jI_of x0
  obtain ⟨z1, i1, rfl⟩ := jI_of x1
  obtain ⟨z2, i2, rfl⟩ := jI_of x2
  exact ⟨_, Sp.of hl h1 h2 (c_kummerTwice ok i0 i1 i2) (m_kummerTwice ok i0 i1 i2) (ok_up ok (by omega))⟩
theorem A_tests (h : Inv c w) (hc : c < 520) (x0 : Int32) : ∃ v : Int32, Sp c 106 241 [.int x0] (.int v) w := by
  obtain ⟨hl, E, t, ws, me, ok, h1, h2⟩ := h
  obtain ⟨z0, i0, rfl⟩ := jI_of x0
  exact ⟨_, Sp.of hl h1 h2 (c_tests ok i0) (m_tests ok i0) (ok_up ok (by omega))⟩
theorem A_suspects (h : Inv c w) (hc : c < 520) (x0 : Int32) : ∃ v : Int64, Sp c 107 242 [.int x0] (.long v) w := by
  obtain ⟨hl, E, t, ws, me, ok, h1, h2⟩ := h
  obtain ⟨z0, i0, rfl⟩ := jI_of x0
  exact ⟨_, Sp.of hl h1 h2 (c_suspects ok i0) (m_suspects ok i0) (ok_up ok (by omega))⟩
theorem A_broken (h : Inv c w) (hc : c < 520) (x0 : Int32) : ∃ v : Int32, Sp c 108 249 [.int x0] (.int v) w := by
  obtain ⟨hl, E, t, ws, me, ok, h1, h2⟩ := h
  obtain ⟨z0, i0, rfl⟩ := jI_of x0
  exact ⟨_, Sp.of hl h1 h2 (c_broken ok i0) (m_broken ok i0) (ok_up ok (by omega))⟩
theorem A_culprit (h : Inv c w) (hc : c < 520) (x0 : Int32) : ∃ v : Int32, Sp c 109 244 [.int x0] (.int v) w := by
  obtain ⟨hl, E, t, ws, me, ok, h1, h2⟩ := h
  obtain ⟨z0, i0, rfl⟩ := jI_of x0
  exact ⟨_, Sp.of hl h1 h2 (c_culprit ok i0) (m_culprit ok i0) (ok_up ok (by omega))⟩
theorem A_trial (h : Inv c w) (hc : c < 520) (x0 x1 x2 : Int32) : ∃ v : Int32, Sp c 112 246 [.int x0, .int x1, .int x2] (.int v) w := by
  obtain ⟨hl, E, t, ws, me, ok, h1, h2⟩ := h
  obtain ⟨z0, i0, rfl⟩ := jI_of x0
  obtain ⟨z1, i1, rfl⟩ := jI_of x1
  obtain ⟨z2, i2, rfl⟩ := jI_of x2
  exact ⟨_, Sp.of hl h1 h2 (c_trial ok (by omega) i0 i1 i2) (m_trial ok (by omega) i0 i1 i2) (ok_up ok (by omega))⟩
theorem A_remainder (h : Inv c w) (hc : c < 520) (x0 x1 : Int32) : ∃ v : Int64, Sp c 115 248 [.int x0, .int x1] (.long v) w := by
  obtain ⟨hl, E, t, ws, me, ok, h1, h2⟩ := h
  obtain ⟨z0, i0, rfl⟩ := jI_of x0
  obtain ⟨z1, i1, rfl⟩ := jI_of x1
  exact ⟨_, Sp.of hl h1 h2 (c_remainder ok i0 i1) (m_remainder ok i0 i1) (ok_up ok (by omega))⟩
theorem A_triangleAt (h : Inv c w) (hc : c < 520) (x0 x1 x2 : Int32) : ∃ v : Int64, Sp c 118 225 [.int x0, .int x1, .int x2] (.long v) w := by
  obtain ⟨hl, E, t, ws, me, ok, h1, h2⟩ := h
  obtain ⟨z0, i0, rfl⟩ := jI_of x0
  obtain ⟨z1, i1, rfl⟩ := jI_of x1
  obtain ⟨z2, i2, rfl⟩ := jI_of x2
  exact ⟨_, Sp.of hl h1 h2 (c_triangleAt i0 i1 i2) (m_triangleAt i0 i1 i2) (ok_up ok (by omega))⟩
theorem A_whichBelow (h : Inv c w) (hc : c < 520) (x0 : Int32) : ∃ v : Int32, Sp c 119 226 [.int x0] (.int v) w := by
  obtain ⟨hl, E, t, ws, me, ok, h1, h2⟩ := h
  obtain ⟨z0, i0, rfl⟩ := jI_of x0
  exact ⟨_, Sp.of hl h1 h2 (c_whichBelow i0) (m_whichBelow i0) (ok_up ok (by omega))⟩
theorem A_irregular (h : Inv c w) (hc : c < 520) (x0 : Int32) : ∃ v : Int32, Sp c 120 257 [.int x0] (.int v) w := by
  obtain ⟨hl, E, t, ws, me, ok, h1, h2⟩ := h
  obtain ⟨z0, i0, rfl⟩ := jI_of x0
  exact ⟨_, Sp.of hl h1 h2 (c_irregular ok i0) (m_irregular i0) (ok_up ok (by omega))⟩
theorem A_pair (h : Inv c w) (hc : c < 520) (x0 x1 : Int32) : ∃ v : Int32, Sp c 129 259 [.int x0, .int x1] (.int v) w := by
  obtain ⟨hl, E, t, ws, me, ok, h1, h2⟩ := h
  obtain ⟨z0, i0, rfl⟩ := jI_of x0
  obtain ⟨z1, i1, rfl⟩ := jI_of x1
  exact ⟨_, Sp.of hl h1 h2 (c_pair ok i0 i1) (m_pair i0 i1) (ok_up ok (by omega))⟩
theorem A_second (h : Inv c w) (hc : c < 520) (x0 : Int32) : ∃ v : Int32, Sp c 133 260 [.int x0] (.int v) w := by
  obtain ⟨hl, E, t, ws, me, ok, h1, h2⟩ := h
  obtain ⟨z0, i0, rfl⟩ := jI_of x0
  exact ⟨_, Sp.of hl h1 h2 (c_second ok i0) (m_second i0) (ok_up ok (by omega))⟩
theorem A_far (h : Inv c w) (hc : c < 520) (x0 x1 : Int32) : ∃ v : Int32, Sp c 136 262 [.int x0, .int x1] (.int v) w := by
  obtain ⟨hl, E, t, ws, me, ok, h1, h2⟩ := h
  obtain ⟨z0, i0, rfl⟩ := jI_of x0
  obtain ⟨z1, i1, rfl⟩ := jI_of x1
  exact ⟨_, Sp.of hl h1 h2 (c_far i0 i1) (m_far i0 i1) (ok_up ok (by omega))⟩
theorem A_voronoi (h : Inv c w) (hc : c < 520) (x0 x1 x2 : Int32) : ∃ v : Int32, Sp c 137 269 [.int x0, .int x1, .int x2] (.int v) w := by
  obtain ⟨hl, E, t, ws, me, ok, h1, h2⟩ := h
  obtain ⟨z0, i0, rfl⟩ := jI_of x0
  obtain ⟨z1, i1, rfl⟩ := jI_of x1
  obtain ⟨z2, i2, rfl⟩ := jI_of x2
  exact ⟨_, Sp.of hl h1 h2 (c_voronoi i0 i1 i2) (m_voronoi i0 i1 i2) (ok_up ok (by omega))⟩
theorem A_byWay (h : Inv c w) (hc : c < 520) (x0 x1 x2 : Int32) : ∃ v : Int32, Sp c 138 250 [.int x0, .int x1, .int x2] (.int v) w := by
  obtain ⟨hl, E, t, ws, me, ok, h1, h2⟩ := h
  obtain ⟨z0, i0, rfl⟩ := jI_of x0
  obtain ⟨z1, i1, rfl⟩ := jI_of x1
  obtain ⟨z2, i2, rfl⟩ := jI_of x2
  exact ⟨_, Sp.of hl h1 h2 (c_byWay ok i0 i1 i2) (m_byWay i0 i1 i2) (ok_up ok (by omega))⟩
theorem A_nothings (h : Inv c w) (hc : c < 520) (x0 x1 : Int32) : ∃ v : Int32, Sp c 139 256 [.int x0, .int x1] (.int v) w := by
  obtain ⟨hl, E, t, ws, me, ok, h1, h2⟩ := h
  obtain ⟨z0, i0, rfl⟩ := jI_of x0
  obtain ⟨z1, i1, rfl⟩ := jI_of x1
  exact ⟨_, Sp.of hl h1 h2 (c_nothings ok i0 i1) (m_nothings i0 i1) (ok_up ok (by omega))⟩
theorem A_harmonic (h : Inv c w) (hc : c < 520) (x0 : Int32) : ∃ v : Int32, Sp c 140 263 [.int x0] (.int v) w := by
  obtain ⟨hl, E, t, ws, me, ok, h1, h2⟩ := h
  obtain ⟨z0, i0, rfl⟩ := jI_of x0
  exact ⟨_, Sp.of hl h1 h2 (c_harmonic i0) (m_harmonic i0) (ok_up ok (by omega))⟩
theorem A_wilson (h : Inv c w) (hc : c < 520) (x0 : Int32) : ∃ v : Int32, Sp c 141 264 [.int x0] (.int v) w := by
  obtain ⟨hl, E, t, ws, me, ok, h1, h2⟩ := h
  obtain ⟨z0, i0, rfl⟩ := jI_of x0
  exact ⟨_, Sp.of hl h1 h2 (c_wilson i0) (m_wilson i0) (ok_up ok (by omega))⟩
theorem A_classNumber (h : Inv c w) (hc : c < 520) (x0 : Int32) : ∃ v : Int32, Sp c 142 265 [.int x0] (.int v) w := by
  obtain ⟨hl, E, t, ws, me, ok, h1, h2⟩ := h
  obtain ⟨z0, i0, rfl⟩ := jI_of x0
  exact ⟨_, Sp.of hl h1 h2 (c_classNumber i0) (m_classNumber i0) (ok_up ok (by omega))⟩
theorem A_quadratic (h : Inv c w) (hc : c < 520) (x0 x1 x2 : Int32) : ∃ v : Int64, Sp c 144 267 [.int x0, .int x1, .int x2] (.long v) w := by
  obtain ⟨hl, E, t, ws, me, ok, h1, h2⟩ := h
  obtain ⟨z0, i0, rfl⟩ := jI_of x0
  obtain ⟨z1, i1, rfl⟩ := jI_of x1
  obtain ⟨z2, i2, rfl⟩ := jI_of x2
  exact ⟨_, Sp.of hl h1 h2 (c_quadratic i0 i1 i2) (m_quadratic i0 i1 i2) (ok_up ok (by omega))⟩
theorem A_regulars (h : Inv c w) (hc : c < 520) (x0 : Int32) : ∃ v : Int32, Sp c 147 270 [.int x0] (.int v) w := by
  obtain ⟨hl, E, t, ws, me, ok, h1, h2⟩ := h
  obtain ⟨z0, i0, rfl⟩ := jI_of x0
  exact ⟨_, Sp.of hl h1 h2 (c_regulars ok i0) (m_regulars i0) (ok_up ok (by omega))⟩
theorem A_coefficient (h : Inv c w) (hc : c < 520) (x0 x1 x2 : Int32) : ∃ v : Int64, Sp c 148 271 [.int x0, .int x1, .int x2] (.long v) w := by
  obtain ⟨hl, E, t, ws, me, ok, h1, h2⟩ := h
  obtain ⟨z0, i0, rfl⟩ := jI_of x0
  obtain ⟨z1, i1, rfl⟩ := jI_of x1
  obtain ⟨z2, i2, rfl⟩ := jI_of x2
  exact ⟨_, Sp.of hl h1 h2 (c_coefficient ok i0 i1 i2) (m_coefficient ok i0 i1 i2) (ok_up ok (by omega))⟩
theorem A_sum (h : Inv c w) (hc : c < 520) (x0 x1 : Int32) : ∃ v : Int32, Sp c 151 274 [.int x0, .int x1] (.int v) w := by
  obtain ⟨hl, E, t, ws, me, ok, h1, h2⟩ := h
  obtain ⟨z0, i0, rfl⟩ := jI_of x0
  obtain ⟨z1, i1, rfl⟩ := jI_of x1
  exact ⟨_, Sp.of hl h1 h2 (c_sum ok i0 i1) (m_sum ok i0 i1) (ok_up ok (by omega))⟩
theorem A_digits (h : Inv c w) (hc : c < 520) (x0 x1 : Int32) : ∃ v : Int32, Sp c 155 279 [.int x0, .int x1] (.int v) w := by
  obtain ⟨hl, E, t, ws, me, ok, h1, h2⟩ := h
  obtain ⟨z0, i0, rfl⟩ := jI_of x0
  obtain ⟨z1, i1, rfl⟩ := jI_of x1
  exact ⟨_, Sp.of hl h1 h2 (c_digits i0 i1) (m_digits i0 i1) (ok_up ok (by omega))⟩
theorem A_digit (h : Inv c w) (hc : c < 520) (x0 x1 x2 : Int32) : ∃ v : Int32, Sp c 163 286 [.int x0, .int x1, .int x2] (.int v) w := by
  obtain ⟨hl, E, t, ws, me, ok, h1, h2⟩ := h
  obtain ⟨z0, i0, rfl⟩ := jI_of x0
  obtain ⟨z1, i1, rfl⟩ := jI_of x1
  obtain ⟨z2, i2, rfl⟩ := jI_of x2
  exact ⟨_, Sp.of hl h1 h2 (c_digit i0 i1 i2) (m_digit i0 i1 i2) (ok_up ok (by omega))⟩
theorem A_progression (h : Inv c w) (hc : c < 520) (x0 x1 x2 x3 : Int32) : ∃ v : Int32, Sp c 165 278 [.int x0, .int x1, .int x2, .int x3] (.int v) w := by
  obtain ⟨hl, E, t, ws, me, ok, h1, h2⟩ := h
  obtain ⟨z0, i0, rfl⟩ := jI_of x0
  obtain ⟨z1, i1, rfl⟩ := jI_of x1
  obtain ⟨z2, i2, rfl⟩ := jI_of x2
  obtain ⟨z3, i3, rfl⟩ := jI_of x3
  exact ⟨_, Sp.of hl h1 h2 (c_progression ok i0 i1 i2 i3) (m_progression ok i0 i1 i2 i3) (ok_up ok (by omega))⟩
theorem A_triangular (h : Inv c w) (hc : c < 520) (x0 x1 x2 : Int32) : ∃ v : Int64, Sp c 166 287 [.int x0, .int x1, .int x2] (.long v) w := by
  obtain ⟨hl, E, t, ws, me, ok, h1, h2⟩ := h
  obtain ⟨z0, i0, rfl⟩ := jI_of x0
  obtain ⟨z1, i1, rfl⟩ := jI_of x1
  obtain ⟨z2, i2, rfl⟩ := jI_of x2
  exact ⟨_, Sp.of hl h1 h2 (c_triangular ok i0 i1 i2) (m_triangular ok i0 i1 i2) (ok_up ok (by omega))⟩
theorem A_poly (h : Inv c w) (hc : c < 520) (x0 x1 x2 : Int32) : ∃ v : Int64, Sp c 168 290 [.int x0, .int x1, .int x2] (.long v) w := by
  obtain ⟨hl, E, t, ws, me, ok, h1, h2⟩ := h
  obtain ⟨z0, i0, rfl⟩ := jI_of x0
  obtain ⟨z1, i1, rfl⟩ := jI_of x1
  obtain ⟨z2, i2, rfl⟩ := jI_of x2
  exact ⟨_, Sp.of hl h1 h2 (c_poly ok i0 i1 i2) (m_poly ok i0 i1 i2) (ok_up ok (by omega))⟩
theorem A_value (h : Inv c w) (hc : c < 520) (x0 x1 x2 x3 : Int32) : ∃ v : Int64, Sp c 169 291 [.int x0, .int x1, .int x2, .int x3] (.long v) w := by
  obtain ⟨hl, E, t, ws, me, ok, h1, h2⟩ := h
  obtain ⟨z0, i0, rfl⟩ := jI_of x0
  obtain ⟨z1, i1, rfl⟩ := jI_of x1
  obtain ⟨z2, i2, rfl⟩ := jI_of x2
  obtain ⟨z3, i3, rfl⟩ := jI_of x3
  exact ⟨_, Sp.of hl h1 h2 (c_value ok i0 i1 i2 i3) (m_value ok i0 i1 i2 i3) (ok_up ok (by omega))⟩
theorem A_at (h : Inv c w) (hc : c < 520) (x0 x1 x2 : Int32) : ∃ v : Int32, Sp c 170 292 [.int x0, .int x1, .int x2] (.int v) w := by
  obtain ⟨hl, E, t, ws, me, ok, h1, h2⟩ := h
  obtain ⟨z0, i0, rfl⟩ := jI_of x0
  obtain ⟨z1, i1, rfl⟩ := jI_of x1
  obtain ⟨z2, i2, rfl⟩ := jI_of x2
  exact ⟨_, Sp.of hl h1 h2 (c_at ok i0 i1 i2) (m_at ok i0 i1 i2) (ok_up ok (by omega))⟩
theorem A_roots (h : Inv c w) (hc : c < 520) (x0 x1 : Int32) : ∃ v : Int32, Sp c 173 295 [.int x0, .int x1] (.int v) w := by
  obtain ⟨hl, E, t, ws, me, ok, h1, h2⟩ := h
  obtain ⟨z0, i0, rfl⟩ := jI_of x0
  obtain ⟨z1, i1, rfl⟩ := jI_of x1
  exact ⟨_, Sp.of hl h1 h2 (c_roots ok i0 i1) (m_roots ok i0 i1) (ok_up ok (by omega))⟩
theorem A_zeta (h : Inv c w) (hc : c < 520) (x0 x1 : Int32) : ∃ v : Int64, Sp c 174 296 [.int x0, .int x1] (.long v) w := by
  obtain ⟨hl, E, t, ws, me, ok, h1, h2⟩ := h
  obtain ⟨z0, i0, rfl⟩ := jI_of x0
  obtain ⟨z1, i1, rfl⟩ := jI_of x1
  exact ⟨_, Sp.of hl h1 h2 (c_zeta ok i0 i1) (m_zeta ok i0 i1) (ok_up ok (by omega))⟩
theorem A_genocchi (h : Inv c w) (hc : c < 520) (x0 : Int32) : ∃ v : Int64, Sp c 175 297 [.int x0] (.long v) w := by
  obtain ⟨hl, E, t, ws, me, ok, h1, h2⟩ := h
  obtain ⟨z0, i0, rfl⟩ := jI_of x0
  exact ⟨_, Sp.of hl h1 h2 (c_genocchi ok i0) (m_genocchi ok i0) (ok_up ok (by omega))⟩
theorem A_onto (h : Inv c w) (hc : c < 520) (x0 x1 : Int32) : ∃ v : Int64, Sp c 176 298 [.int x0, .int x1] (.long v) w := by
  obtain ⟨hl, E, t, ws, me, ok, h1, h2⟩ := h
  obtain ⟨z0, i0, rfl⟩ := jI_of x0
  obtain ⟨z1, i1, rfl⟩ := jI_of x1
  exact ⟨_, Sp.of hl h1 h2 (c_onto i0 i1) (m_onto i0 i1) (ok_up ok (by omega))⟩
theorem A_byBoxes (h : Inv c w) (hc : c < 520) (x0 x1 : Int32) : ∃ v : Int64, Sp c 179 301 [.int x0, .int x1] (.long v) w := by
  obtain ⟨hl, E, t, ws, me, ok, h1, h2⟩ := h
  obtain ⟨z0, i0, rfl⟩ := jI_of x0
  obtain ⟨z1, i1, rfl⟩ := jI_of x1
  exact ⟨_, Sp.of hl h1 h2 (c_byBoxes i0 i1) (m_byBoxes i0 i1) (ok_up ok (by omega))⟩
theorem A_zigzag (h : Inv c w) (hc : c < 520) (x0 : Int32) : ∃ v : Int64, Sp c 180 302 [.int x0] (.long v) w := by
  obtain ⟨hl, E, t, ws, me, ok, h1, h2⟩ := h
  obtain ⟨z0, i0, rfl⟩ := jI_of x0
  exact ⟨_, Sp.of hl h1 h2 (c_zigzag i0) (m_zigzag i0) (ok_up ok (by omega))⟩
theorem A_tangent (h : Inv c w) (hc : c < 520) (x0 : Int32) : ∃ v : Int64, Sp c 181 303 [.int x0] (.long v) w := by
  obtain ⟨hl, E, t, ws, me, ok, h1, h2⟩ := h
  obtain ⟨z0, i0, rfl⟩ := jI_of x0
  exact ⟨_, Sp.of hl h1 h2 (c_tangent ok i0) (m_tangent ok i0) (ok_up ok (by omega))⟩
theorem A_growth (h : Inv c w) (hc : c < 520) (x0 : Int32) : ∃ v : Int32, Sp c 182 305 [.int x0] (.int v) w := by
  obtain ⟨hl, E, t, ws, me, ok, h1, h2⟩ := h
  obtain ⟨z0, i0, rfl⟩ := jI_of x0
  exact ⟨_, Sp.of hl h1 h2 (c_growth ok i0) (m_growth ok i0) (ok_up ok (by omega))⟩
theorem A_count (h : Inv c w) (hc : c < 520) (x0 : Int32) : ∃ v : Int32, Sp c 184 306 [.int x0] (.int v) w := by
  obtain ⟨hl, E, t, ws, me, ok, h1, h2⟩ := h
  obtain ⟨z0, i0, rfl⟩ := jI_of x0
  exact ⟨_, Sp.of hl h1 h2 (c_count ok i0) (m_count ok i0) (ok_up ok (by omega))⟩
end RUN
