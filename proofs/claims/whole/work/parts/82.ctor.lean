/-! the class's constructors: what they lay behind a heap p -/
theorem ap_g {p l : xW} {k : Nat} : (p ++ l)[p.length + k]? = l[k]? := by
  rw [List.getElem?_append_right (by omega), Nat.add_sub_cancel_left]
theorem ap_0 {p l : xW} : (p ++ l)[p.length]? = l[0]? := ap_g (k := 0)
theorem ap_s {p l : xW} {k : Nat} {c : xC} : (p ++ l).set (p.length + k) c = p ++ l.set k c := by
  rw [List.set_append, if_neg (by omega), Nat.add_sub_cancel_left]
theorem ap_s0 {p l : xW} {c : xC} : (p ++ l).set p.length c = p ++ l.set 0 c := ap_s (k := 0)
theorem nw_ok {n : Int32} {L : Nat} (h1 : ¬ n < 0) (h2 : ¬ 1000000 < n.toNatClampNeg) (h3 : L + 1 < xP) : ¬ (n < 0 ∨ 1000000 < n.toNatClampNeg ∨ xP ≤ L + 1) := by
  intro h
  rcases h with h | h | h
  · exact h1 h
  · exact h2 h
  · omega
theorem set_id {w : xW} {a : Nat} {c : xC} (h : w[a]? = some c) : w.set a c = w := by
  apply List.ext_getElem?
  intro j
  rw [List.getElem?_set]
  by_cases e : a = j
  · subst e
    rw [if_pos rfl, if_pos (List.getElem?_eq_some_iff.mp h).1, h]
  · rw [if_neg e]
abbrev zL : Nat → Int64 := fun _ => 0
abbrev zI : Nat → Int32 := fun _ => 0
section KC
variable {p : xW}
theorem len1 {x : xC} : (p ++ [x]).length = p.length + 1 := by simp
theorem len2 {x y : xC} : (p ++ [x, y]).length = p.length + 2 := by simp
theorem len3 {x y z : xC} : (p ++ [x, y, z]).length = p.length + 3 := by simp
theorem len4 {x y z u : xC} : (p ++ [x, y, z, u]).length = p.length + 4 := by simp
theorem K_2 : xCall 2 [.ref p.length] (p ++ [.inr (2, xvs.getD 2 [])]) (none, p ++ [.inr (2, [.long 1, .long 0, .long 0])]) := by
  refine E_2 (S_2_0 ⟨_, ap_0.trans rfl, Nat.le_of_ble_eq_true rfl, fun w4 e4 => ?_⟩)
  rw [e4, ap_s0]
  rfl
theorem K_5 : xCall 5 [.ref p.length] (p ++ [.inr (5, xvs.getD 5 [])]) (none, p ++ [.inr (5, [.long 0, .long 0, .long 1])]) := by
  refine E_5 (S_5_0 ⟨_, ap_0.trans rfl, Nat.le_of_ble_eq_true rfl, fun w4 e4 => ?_⟩)
  rw [e4, ap_s0]
  rfl
theorem K_3 (hp : p.length + 100 < xP) : xCall 3 [.ref p.length] (p ++ [.inr (3, xvs.getD 3 [])]) (none, p ++ [.inr (3, [.ref (p.length + 1), .ref (p.length + 2), .int 0]), aL 39 zL, aL 39 zL]) := by
  refine E_3 (S_3_0 ⟨nw_ok (by decide) (by decide) (by rw [len1]; omega), fun b3 w2 e3 e2 => ?_⟩)
  rw [len1] at e3
  rw [List.append_assoc] at e2
  subst e3 e2
  refine ⟨_, ap_0.trans rfl, Nat.le_of_ble_eq_true rfl, fun w7 e7 => ?_⟩
  rw [ap_s0] at e7
  have e7 : w7 = p ++ [.inr (3, [.ref (p.length + 1), .null, .int 0]), aL 39 zL] := e7
  subst e7
  refine ⟨nw_ok (by decide) (by decide) (by rw [len2]; omega), fun b10 w9 e10 e9 => ?_⟩
  rw [len2] at e10
  rw [List.append_assoc] at e9
  subst e10 e9
  refine ⟨_, ap_0.trans rfl, Nat.le_of_ble_eq_true rfl, fun w14 e14 => ?_⟩
  rw [e14, ap_s0]
  rfl
theorem L_6w {a n : Nat} {v : Int64} (n200 : n ≤ 200) : ∀ (k i : Nat) (w : xW) (f : Nat → Int64), i + k = n → w[a]? = some (aL n f) →
    ∃ g, xGo 6 6 [some (.ref a), some (.long v), none, some (.int (jI (i : Int))), some (.int (jI (n : Int)))] [] w (none, w.set a (aL n g)) := by
  intro k
  induction k with
  | zero =>
    intro i w f hi hf
    exact ⟨f, by rw [set_id hf]; exact S_6_6 ⟨fun _ => rfl, fun q => absurd ((jI_le s32 s32).mpr (by omega)) q⟩⟩
  | succ k ih =>
    intro i w f hi hf
    obtain ⟨g, hg⟩ := ih (i + 1) (w.set a (aL n (vp_updL f i v))) (vp_updL f i v) (by omega) (set_get hf)
    rw [List.set_set] at hg
    refine ⟨g, S_6_6 ⟨fun q => absurd q (fun z => by have := (jI_le (a := (n : Int)) (b := (i : Int)) s32 s32).mp z; omega), fun _ => ⟨_, _, hf, ixin (by omega) (by omega), fun w5 e5 v6 e6 => ?_⟩⟩⟩
    rw [ixn (by omega)] at e5
    rw [e5, e6, show (1 : Int32) = jI 1 from rfl, jI_add]
    exact hg
theorem K_6 {w : xW} {a n : Nat} {v : Int64} {f : Nat → Int64} (n200 : n ≤ 200) (hf : w[a]? = some (aL n f)) : ∃ g, xCall 6 [.ref a, .long v] w (none, w.set a (aL n g)) := by
  obtain ⟨g, hg⟩ := L_6w (v := v) n200 n 0 w f (by omega) hf
  exact ⟨g, E_6 (S_6_0 ⟨_, _, hf, fun v4 e4 => by rw [e4, jI_len]; exact hg⟩)⟩
theorem K_4 (hp : p.length + 100 < xP) : ∃ g, xCall 4 [.ref p.length] (p ++ [.inr (4, xvs.getD 4 [])]) (none, p ++ [.inr (4, [.ref (p.length + 1), .ref (p.length + 2), .ref (p.length + 3), .ref (p.length + 4)]), aL 39 zL, aL 39 zL, aL 39 g, .inr (5, [.long 0, .long 0, .long 1])]) := by
  have a6 : (p ++ [.inr (4, [.ref (p.length + 1), .ref (p.length + 2), .ref (p.length + 3), .ref (p.length + 4)]), aL 39 zL, aL 39 zL, aL 39 zL, .inr (5, [.long 0, .long 0, .long 1])])[p.length + 3]? = some (aL 39 zL) := ap_g.trans rfl
  obtain ⟨g, hg⟩ := K_6 (v := 1) (by decide) a6
  refine ⟨g, E_4 (S_4_0 ⟨nw_ok (by decide) (by decide) (by rw [len1]; omega), fun b3 w2 e3 e2 => ?_⟩)⟩
  rw [len1] at e3
  rw [List.append_assoc] at e2
  subst e3 e2
  refine ⟨_, ap_0.trans rfl, Nat.le_of_ble_eq_true rfl, fun w7 e7 => ?_⟩
  rw [ap_s0] at e7
  have e7 : w7 = p ++ [.inr (4, [.ref (p.length + 1), .null, .null, .null]), aL 39 zL] := e7
  subst e7
  refine ⟨nw_ok (by decide) (by decide) (by rw [len2]; omega), fun b10 w9 e10 e9 => ?_⟩
  rw [len2] at e10
  rw [List.append_assoc] at e9
  subst e10 e9
  refine ⟨_, ap_0.trans rfl, Nat.le_of_ble_eq_true rfl, fun w14 e14 => ?_⟩
  rw [ap_s0] at e14
  have e14 : w14 = p ++ [.inr (4, [.ref (p.length + 1), .ref (p.length + 2), .null, .null]), aL 39 zL, aL 39 zL] := e14
  subst e14
  refine ⟨nw_ok (by decide) (by decide) (by rw [len3]; omega), fun b17 w16 e17 e16 => ?_⟩
  rw [len3] at e17
  rw [List.append_assoc] at e16
  subst e17 e16
  refine ⟨_, ap_0.trans rfl, Nat.le_of_ble_eq_true rfl, fun w21 e21 => ?_⟩
  rw [ap_s0] at e21
  have e21 : w21 = p ++ [.inr (4, [.ref (p.length + 1), .ref (p.length + 2), .ref (p.length + 3), .null]), aL 39 zL, aL 39 zL, aL 39 zL] := e21
  subst e21
  refine ⟨by rw [len4]; omega, fun b24 w23 e24 e23 => ?_⟩
  subst e23
  have k5 := K_5 (p := p ++ [.inr (4, [.ref (p.length + 1), .ref (p.length + 2), .ref (p.length + 3), .null]), aL 39 zL, aL 39 zL, aL 39 zL])
  rw [← e24] at k5
  rw [len4] at e24
  rw [List.append_assoc, List.append_assoc] at k5
  rw [List.append_assoc]
  subst e24
  refine ⟨_, k5, _, ap_0.trans rfl, Nat.le_of_ble_eq_true rfl, fun w30 e30 => ?_⟩
  rw [ap_s0] at e30
  have e30 : w30 = p ++ [.inr (4, [.ref (p.length + 1), .ref (p.length + 2), .ref (p.length + 3), .ref (p.length + 4)]), aL 39 zL, aL 39 zL, aL 39 zL, .inr (5, [.long 0, .long 0, .long 1])] := e30
  subst e30
  rw [ap_s] at hg
  exact ⟨_, rfl, _, hg, rfl⟩
theorem K_7 {a b c : Nat} : xCall 7 [.ref p.length, .ref a, .ref b, .ref c] (p ++ [.inr (6, xvs.getD 6 [])]) (none, p ++ [.inr (6, [.ref a, .ref b, .ref c])]) := by
  refine E_7 (S_7_0 ⟨_, ap_0.trans rfl, Nat.le_of_ble_eq_true rfl, fun w4 e4 => ⟨Nat.le_of_ble_eq_true rfl, fun w6 e6 => ⟨Nat.le_of_ble_eq_true rfl, fun w8 e8 => ?_⟩⟩⟩)
  rw [e8, e6, e4, ap_s0, ap_s0, ap_s0]
  rfl
theorem K_8 (hp : p.length + 100 < xP) : xCall 8 [.ref p.length] (p ++ [.inr (7, xvs.getD 7 [])]) (none, p ++ [.inr (7, [.ref (p.length + 1), .ref (p.length + 2), .ref (p.length + 3), .int 0]), aI 20 zI, aI 20 zI, aI 20 zI]) := by
  refine E_8 (S_8_0 ⟨nw_ok (by decide) (by decide) (by rw [len1]; omega), fun b3 w2 e3 e2 => ?_⟩)
  rw [len1] at e3
  rw [List.append_assoc] at e2
  subst e3 e2
  refine ⟨_, ap_0.trans rfl, Nat.le_of_ble_eq_true rfl, fun w7 e7 => ?_⟩
  rw [ap_s0] at e7
  have e7 : w7 = p ++ [.inr (7, [.ref (p.length + 1), .null, .null, .int 0]), aI 20 zI] := e7
  subst e7
  refine ⟨nw_ok (by decide) (by decide) (by rw [len2]; omega), fun b10 w9 e10 e9 => ?_⟩
  rw [len2] at e10
  rw [List.append_assoc] at e9
  subst e10 e9
  refine ⟨_, ap_0.trans rfl, Nat.le_of_ble_eq_true rfl, fun w14 e14 => ?_⟩
  rw [ap_s0] at e14
  have e14 : w14 = p ++ [.inr (7, [.ref (p.length + 1), .ref (p.length + 2), .null, .int 0]), aI 20 zI, aI 20 zI] := e14
  subst e14
  refine ⟨nw_ok (by decide) (by decide) (by rw [len3]; omega), fun b17 w16 e17 e16 => ?_⟩
  rw [len3] at e17
  rw [List.append_assoc] at e16
  subst e17 e16
  refine ⟨_, ap_0.trans rfl, Nat.le_of_ble_eq_true rfl, fun w21 e21 => ?_⟩
  rw [e21, ap_s0]
  rfl
theorem K_9 (hp : p.length + 100 < xP) : xCall 9 [.ref p.length] (p ++ [.inr (8, xvs.getD 8 [])]) (none, p ++ [.inr (8, [.ref (p.length + 1), .ref (p.length + 2), .int 0, .int 0]), aL 200 zL, aL 200 zL]) := by
  refine E_9 (S_9_0 ⟨nw_ok (by decide) (by decide) (by rw [len1]; omega), fun b3 w2 e3 e2 => ?_⟩)
  rw [len1] at e3
  rw [List.append_assoc] at e2
  subst e3 e2
  refine ⟨_, ap_0.trans rfl, Nat.le_of_ble_eq_true rfl, fun w7 e7 => ?_⟩
  rw [ap_s0] at e7
  have e7 : w7 = p ++ [.inr (8, [.ref (p.length + 1), .null, .int 0, .int 0]), aL 200 zL] := e7
  subst e7
  refine ⟨nw_ok (by decide) (by decide) (by rw [len2]; omega), fun b10 w9 e10 e9 => ?_⟩
  rw [len2] at e10
  rw [List.append_assoc] at e9
  subst e10 e9
  refine ⟨_, ap_0.trans rfl, Nat.le_of_ble_eq_true rfl, fun w14 e14 => ?_⟩
  rw [e14, ap_s0]
  rfl
theorem K_10 {a : Nat} (hp : p.length + 100 < xP) : xCall 10 [.ref p.length, .ref a] (p ++ [.inr (9, xvs.getD 9 [])]) (none, p ++ [.inr (9, [.ref a, .ref (p.length + 1), .ref (p.length + 2), .int 0, .int 1]), aI 100 zI, aI 100 zI]) := by
  refine E_10 (S_10_0 ⟨nw_ok (by decide) (by decide) (by rw [len1]; omega), fun b3 w2 e3 e2 => ?_⟩)
  rw [len1] at e3
  rw [List.append_assoc] at e2
  subst e3 e2
  refine ⟨_, ap_0.trans rfl, Nat.le_of_ble_eq_true rfl, fun w7 e7 => ?_⟩
  rw [ap_s0] at e7
  have e7 : w7 = p ++ [.inr (9, [.null, .ref (p.length + 1), .null, .int 0, .int 0]), aI 100 zI] := e7
  subst e7
  refine ⟨nw_ok (by decide) (by decide) (by rw [len2]; omega), fun b10 w9 e10 e9 => ?_⟩
  rw [len2] at e10
  rw [List.append_assoc] at e9
  subst e10 e9
  refine ⟨_, ap_0.trans rfl, Nat.le_of_ble_eq_true rfl, fun w14 e14 => ⟨Nat.le_of_ble_eq_true rfl, fun w16 e16 => ⟨Nat.le_of_ble_eq_true rfl, fun w18 e18 => ?_⟩⟩⟩
  rw [e18, e16, e14, ap_s0, ap_s0, ap_s0]
  rfl
theorem K_11 (hp : p.length + 100 < xP) : xCall 11 [.ref p.length] (p ++ [.inr (10, xvs.getD 10 [])]) (none, p ++ [.inr (10, [.ref (p.length + 1), .int 1]), aL 28 zL]) := by
  refine E_11 (S_11_0 ⟨nw_ok (by decide) (by decide) (by rw [len1]; omega), fun b3 w2 e3 e2 => ?_⟩)
  rw [len1] at e3
  rw [List.append_assoc] at e2
  subst e3 e2
  refine ⟨_, ap_0.trans rfl, Nat.le_of_ble_eq_true rfl, fun w7 e7 => ⟨Nat.le_of_ble_eq_true rfl, fun w9 e9 => ?_⟩⟩
  rw [e9, e7, ap_s0, ap_s0]
  rfl
/-! Choose -/
def PC (C n k : Nat) (f : Nat → Int64) : Prop := ∀ m j, m < 42 → j < C → f (m * C + j) = if m < n ∨ (m = n ∧ j < k) then jL (cb m j) else 0
theorem PC_ix {C m j n k : Nat} (hj : j < C) (hk : k < C) (h : m * C + j = n * C + k) : m = n ∧ j = k := by
  have a : (m * C + j) / C = m := by rw [Nat.add_comm, Nat.add_mul_div_right _ _ (by omega), Nat.div_eq_of_lt hj, Nat.zero_add]
  have b : (n * C + k) / C = n := by rw [Nat.add_comm, Nat.add_mul_div_right _ _ (by omega), Nat.div_eq_of_lt hk, Nat.zero_add]
  have e : m = n := by rw [← a, ← b, h]
  subst e
  exact ⟨rfl, by omega⟩
theorem PC_put {C n k : Nat} {f : Nat → Int64} (hk : k < C) (h : PC C n k f) : PC C n (k + 1) (vp_updL f (n * C + k) (jL (cb n k))) := by
  intro m j hm hj
  by_cases e : m * C + j = n * C + k
  · obtain ⟨rfl, rfl⟩ := PC_ix hj hk e
    rw [updL_eq, if_pos (by omega)]
  · rw [updL_neq e, h m j hm hj]
    have ne : ¬ (m = n ∧ j = k) := fun z => e (by rw [z.1, z.2])
    by_cases q : m < n ∨ (m = n ∧ j < k)
    · rw [if_pos q, if_pos (by omega)]
    · rw [if_neg q, if_neg (by omega)]
theorem PC_next {C n k : Nat} {f : Nat → Int64} (hk : n < k ∨ C ≤ k) (h : PC C n k f) : PC C (n + 1) 0 f := by
  intro m j hm hj
  rw [h m j hm hj]
  by_cases q : m < n ∨ (m = n ∧ j < k)
  · rw [if_pos q, if_pos (by omega)]
  · rw [if_neg q]
    by_cases z : m = n
    · rw [if_pos (by omega), z, cb_gt n j (by omega)]
      rfl
    · rw [if_neg (by omega)]
theorem PC_0 {C : Nat} : PC C 0 0 zL := by
  intro m j hm hj
  rw [if_neg (by omega)]
theorem PC_get {C n k m j : Nat} {f : Nat → Int64} (h : PC C n k f) (hm : m < 42) (hj : j < C) (q : m < n ∨ (m = n ∧ j < k)) : f (m * C + j) = jL (cb m j) := by
  rw [h m j hm hj, if_pos q]
theorem L_1b {a b n : Nat} (hab : b ≠ a) (hn : n < 42) : ∀ (d k : Nat) (w : xW) (f : Nat → Int64), k + d = n + 1 → 1 ≤ k → w[a]? = some (.inr (1, [.ref b])) → w[b]? = some (aL 1764 f) → PC 42 n k f →
    ∃ g, PC 42 (n + 1) 0 g ∧ ∀ r, xGo 1 15 [some (.ref a), some (.int (jI ((n : Int) + 1))), none, none] [] (w.set b (aL 1764 g)) r → xGo 1 33 [some (.ref a), some (.int (jI (n : Int))), some (.int (jI (k : Int))), none] [] w r := by
  intro d
  induction d with
  | zero =>
    intro k w f hd k1 ha hb hf
    refine ⟨f, PC_next (by omega) hf, fun r K => S_1_33 ⟨fun _ v1 e1 => ?_, fun q => absurd ((jI_lt s32 s32).mpr (by omega)) q⟩⟩
    rw [set_id hb] at K
    rw [e1, show (1 : Int32) = jI 1 from rfl, jI_add]
    exact K
  | succ d ih =>
    intro k w f hd k1 ha hb hf
    have x1 : jI ((((n - 1) * 42 + k : Nat)) : Int) - (1 : Int32) = jI ((((n - 1) * 42 + (k - 1) : Nat)) : Int) := by
      rw [show (1 : Int32) = jI 1 from rfl, jI_sub]
      congr 1 <;> omega
    have x2 : jI (n : Int) * (42 : Int32) + jI (k : Int) = jI (((n * 42 + k : Nat)) : Int) := by
      rw [show (42 : Int32) = jI 42 from rfl, jI_mul, jI_add]
      congr 1 <;> omega
    have r1 := PC_get hf (m := n - 1) (j := k - 1) (by omega) (by omega) (by omega)
    have r2 := PC_get hf (m := n - 1) (j := k) (by omega) (by omega) (by omega)
    obtain ⟨g, g1, g2⟩ := ih (k + 1) (w.set b (aL 1764 (vp_updL f (n * 42 + k) (jL ((cb n k : Nat) : Int))))) (vp_updL f (n * 42 + k) (jL ((cb n k : Nat) : Int))) (by omega) (by omega) (by rw [set_ne hab]; exact ha) (set_get hb) (PC_put (by omega) hf)
    rw [List.set_set] at g2
    refine ⟨g, g1, fun r K => S_1_33 ⟨fun q => absurd ((jI_lt s32 s32).mp q) (by omega), fun _ v2 e2 => ?_⟩⟩
    have e2 : v2 = jI ((((n - 1) * 42 + k : Nat)) : Int) := by
      rw [e2, show (1 : Int32) = jI 1 from rfl, show (42 : Int32) = jI 42 from rfl, jI_sub, jI_mul, jI_add]
      congr 1 <;> omega
    subst e2
    refine ⟨_, ha, _, rfl, _, _, hb, ?_, ?_, fun v12 e12 => ⟨?_, fun w14 e14 v15 e15 => ?_⟩⟩
    · rw [x1]; exact jI_in s32 (by omega) (by omega)
    · exact jI_in s32 (by omega) (by omega)
    · rw [x2]; exact jI_in s32 (by omega) (by omega)
    · rw [x1, jI_nat s32, jI_nat s32, Int.toNat_natCast, Int.toNat_natCast, r1, r2, jL_add] at e12
      have e12 : v12 = jL ((cb n k : Nat) : Int) := by
        rw [e12]
        obtain ⟨n', rfl⟩ : ∃ n', n = n' + 1 := ⟨n - 1, by omega⟩
        obtain ⟨k', rfl⟩ : ∃ k', k = k' + 1 := ⟨k - 1, by omega⟩
        show jL (((cb n' k' : Nat) : Int) + ((cb n' (k' + 1) : Nat) : Int)) = jL ((cb n' k' + cb n' (k' + 1) : Nat) : Int)
        rw [Int.natCast_add]
      rw [x2, jI_nat s32, Int.toNat_natCast, e12] at e14
      rw [show (1 : Int32) = jI 1 from rfl, jI_add] at e15
      subst e15
      have e14 : w14 = w.set b (aL 1764 (vp_updL f (n * 42 + k) (jL ((cb n k : Nat) : Int)))) := e14
      subst e14
      exact g2 r K
theorem L_1a {a b : Nat} (hab : b ≠ a) : ∀ (d n : Nat) (w : xW) (f : Nat → Int64), n + d = 42 → w[a]? = some (.inr (1, [.ref b])) → w[b]? = some (aL 1764 f) → PC 42 n 0 f →
    ∃ g, PC 42 42 0 g ∧ xGo 1 15 [some (.ref a), some (.int (jI (n : Int))), none, none] [] w (none, w.set b (aL 1764 g)) := by
  intro d
  induction d with
  | zero =>
    intro n w f hd ha hb hf
    have e : n = 42 := by omega
    subst e
    exact ⟨f, hf, by rw [set_id hb]; exact S_1_15 ⟨fun _ => rfl, fun q => absurd ((jI_le (a := 42) (b := (42 : Nat)) s32 s32).mpr (by omega)) q⟩⟩
  | succ d ih =>
    intro n w f hd ha hb hf
    have x2 : jI (n : Int) * (42 : Int32) = jI (((n * 42 : Nat)) : Int) := by
      rw [show (42 : Int32) = jI 42 from rfl, jI_mul]
      congr 1 <;> omega
    have p1 := PC_put (k := 0) (by decide) hf
    rw [Nat.add_zero, cb_n0] at p1
    obtain ⟨g, g1, g2⟩ := L_1b (a := a) hab (n := n) (by omega) n 1 (w.set b (aL 1764 (vp_updL f (n * 42) (jL ((1 : Nat) : Int))))) (vp_updL f (n * 42) (jL ((1 : Nat) : Int))) (by omega) (by omega) (by rw [set_ne hab]; exact ha) (set_get hb) p1
    rw [List.set_set] at g2
    obtain ⟨g', h1, h2⟩ := ih (n + 1) (w.set b (aL 1764 g)) g (by omega) (by rw [set_ne hab]; exact ha) (set_get hb) g1
    rw [List.set_set] at h2
    refine ⟨g', h1, S_1_15 ⟨fun q => absurd ((jI_le (a := 42) s32 s32).mp q) (by omega), fun _ => ⟨_, ha, _, rfl, _, _, hb, by rw [x2]; exact jI_in s32 (by omega) (by omega), fun w9 e9 => ?_⟩⟩⟩
    rw [x2, jI_nat s32, Int.toNat_natCast] at e9
    rw [e9]
    exact g2 _ h2
theorem K_1 (hp : p.length + 100 < xP) : ∃ g, PC 42 42 0 g ∧ xCall 1 [.ref p.length] (p ++ [.inr (1, xvs.getD 1 [])]) (none, p ++ [.inr (1, [.ref (p.length + 1)]), aL 1764 g]) := by
  obtain ⟨g, g1, g2⟩ := L_1a (a := p.length) (b := p.length + 1) (by omega) 42 0 (p ++ [.inr (1, [.ref (p.length + 1)]), aL 1764 zL]) zL (by omega) (ap_0.trans rfl) (ap_g.trans rfl) PC_0
  rw [ap_s] at g2
  refine ⟨g, g1, E_1 (S_1_0 ⟨nw_ok (by decide) (by decide) (by rw [len1]; omega), fun b3 w2 e3 e2 => ?_⟩)⟩
  rw [len1] at e3
  rw [List.append_assoc] at e2
  subst e3 e2
  refine ⟨_, ap_0.trans rfl, Nat.le_of_ble_eq_true rfl, fun w7 e7 => ?_⟩
  rw [ap_s0] at e7
  rw [e7]
  exact g2
end KC
