/-! AN ARM OF THE LAW -/
/-- n ints of the script from i on -/
def avs (xs : Nat → Int32) : Nat → Nat → List Value
  | _, 0 => []
  | i, n + 1 => .int (xs i) :: avs xs (i + 1) n
theorem avs_map {xs : Nat → Int32} {ad : Nat → Nat} : ∀ {i n : Nat}, (avs xs i n).map (xtv ad) = avs xs i n
  | _, 0 => rfl
  | i, n + 1 => by
    show .int (xs i) :: (avs xs (i + 1) n).map (xtv ad) = _
    rw [avs_map]
    rfl
theorem avs_len {xs : Nat → Int32} : ∀ {i n : Nat}, (avs xs i n).length = n
  | _, 0 => rfl
  | i, n + 1 => by
    show (avs xs (i + 1) n).length + 1 = n + 1
    rw [avs_len]
theorem avs_ent {xs : Nat → Int32} : ∀ {i n : Nat}, (xent1 (avs xs i n)).length = n
  | _, 0 => rfl
  | i, n + 1 => by
    show (xent1 (.int (xs i) :: avs xs (i + 1) n)).length = n + 1
    unfold xent1
    rw [if_neg (show ¬ (Value.int (xs i)).category = 2 from (by decide : ¬ (1 : Nat) = 2)), List.length_cons, avs_ent]
theorem ent_ref {b0 : Nat} {as : List Value} : (xent1 (.ref b0 :: as)).length = (xent1 as).length + 1 := by
  rw [xent1, if_neg (show ¬ (Value.ref b0).category = 2 from (by decide : ¬ (1 : Nat) = 2)), List.length_cons]
theorem lcmp_self (x : Int64) : lg_cmp x x = 0 := by
  unfold lg_cmp
  rw [if_neg (by rw [gt_iff_lt, Int64.lt_iff_toInt_lt]; omega), if_pos rfl]
theorem CS.c0 {w : xW} (hC : CS w) : ∃ fs, w[0]? = some (.inr (0, fs)) := by
  obtain ⟨c, h1, h2⟩ := hC.2 0 (by decide)
  obtain ⟨t, rfl⟩ := h2
  exact ⟨_, h1⟩
theorem CS.c39 {w : xW} (hC : CS w) : ∃ fs, w[39]? = some (.inr (12, fs)) := by
  obtain ⟨c, h1, h2⟩ := hC.2 39 (by decide)
  obtain ⟨th, tp, pm, mm, sw, sr, dr, rfl⟩ := h2
  exact ⟨_, h1⟩
section LW3
variable {p : Program} {l : Launch} {e : Env} {s : State} {m : MethodId} {below : List Frame} {meth : Method} {c : Code} {b L : Nat} {xs : Nat → Int32} {D : va_G} {cI cL : ClassId} {tP : Nat} {ad : Nat → Nat} {w w1 : xW} {H : Heap} {locs : List Loc} {cells slots : Nat} {Q : State → Prop} {ls : Array Slot}
theorem law_push (C : lCx p s m meth c b L xs D cI cL tP) (O : lOK D cI cL ad s w H locs) {i : Nat} {a1 a2 a3 : Nat} (hL : L ≤ 2560) (hl : lv_has ls 8 [(0, .ref b), (1, .ref a1), (2, .ref a2), (3, .ref a3), (4, .int (jI (i : Int)))]) : ∀ (n k pc : Nat) (st : List Value), dpush pc k n → i + k + n ≤ L → W p l e room_1 s m #[Value.ref b] below meth c H locs cells slots Q (F0 m (pc + 6 * n) ls ((avs xs (i + k) n).reverse ++ st)) → W p l e room_1 s m #[Value.ref b] below meth c H locs cells slots Q (F0 m pc ls st) := by
  obtain ⟨⟨hx, hb, hr, hml, hown, hts, hX, hbl, -⟩, -⟩ := C
  have hbA : ¬ lA s b := Nat.not_le.mpr hbl
  intro n
  induction n with
  | zero =>
    intro k pc st hd hi kk
    exact kk
  | succ n ih =>
    intro k pc st hd hi kk
    have d := hd 0 (by omega)
    simp only [Nat.mul_zero, Nat.add_zero] at d
    have ix : (jI (i : Int) + jI (k : Int)) = jI (((i + k : Nat)) : Int) := by rw [jI_add]; rfl
    refine lv_aload_n hx hb d.1 rfl (lv_at hl 0 rfl) ?_
    refine lv_iload hx hb d.2.1 (lv_at hl 4 rfl) ?_
    refine lv_iconst (v := jI (k : Int)) hx hb d.2.2.1 rfl ?_
    refine lv_iadd hx hb d.2.2.2.1 ?_
    rw [ix]
    refine va_sld hx hb hX hbl hbA O.2.2.1 (show vp_in (jI (((i + k : Nat)) : Int)) L from jI_in s32 (by omega) (by omega)) d.2.2.2.2 ?_
    rw [jI_nat s32, Int.toNat_natCast]
    refine ih (k + 1) (pc + 6) (.int (xs (i + k)) :: st) (fun j hj => ?_) (by omega) ?_
    · have q := hd (j + 1) (by omega)
      rw [show pc + 6 * (j + 1) = pc + 6 + 6 * j by omega, show k + (j + 1) = k + 1 + j by omega] at q
      exact q
    · rw [show pc + 6 * (n + 1) = pc + 6 + 6 * n by omega] at kk
      have ee : (avs xs (i + k) (n + 1)).reverse ++ st = (avs xs (i + (k + 1)) n).reverse ++ (.int (xs (i + k)) :: st) := by
        show (Value.int (xs (i + k)) :: avs xs (i + k + 1) n).reverse ++ st = _
        rw [List.reverse_cons, List.append_assoc, show i + (k + 1) = i + k + 1 by omega]
        rfl
      rw [ee] at kk
      exact kk
/-- both calls of an arm -/
theorem law_two (C : lCx p s m meth c b L xs D cI cL tP) (hP : ad xP = tP) (O : lOK D cI cL ad s w H locs) {i c0 : Nat} (hL : L ≤ 2560) (hl : lv_has ls 8 [(0, .ref b), (1, .ref (ad 0)), (2, .ref (ad 39)), (3, .ref (ad 67)), (4, .int (jI (i : Int)))]) (hi : i + 5 ≤ L) {n P ixc ixm kc km : Nat} {xc xm : Int} (n4 : n ≤ 4)
    (d1 : decode code P = .ok (.aload_n 1, 1)) (p1 : dpush (P + 1) 1 n) (d2 : decode code (P + 1 + 6 * n) = .ok (.invokevirtual ixc, 3)) (d3 : decode code (P + 1 + 6 * n + 3) = .ok (.aload_n 2, 1)) (p2 : dpush (P + 1 + 6 * n + 3 + 1) 1 n) (d4 : decode code (P + 1 + 6 * n + 3 + 1 + 6 * n) = .ok (.invokevirtual ixm, 3))
    (sc : lss.lookup ixc = some (0, kc, 0, xc)) (sm : lss.lookup ixm = some (0, km, 0, xm)) (oc : xown kc = 0) (om : xown km = 12) (nc : xna kc = n) (nm : xna km = n) (mc : n + 1 ≤ xml kc) (mm : n + 1 ≤ xml km) (hcl : cells ≤ 1093) (hsl : slots ≤ 14678)
    (hw : Inv c0 w) {v : Value} (A : Sp c0 kc km (avs xs (i + 1) n) v w) (hv : v.category ≤ 2) (hvt : xtv ad v = v)
    (K : ∀ (w2 : xW) (H2 : Heap) (locs2 : List Loc), Inv (c0 + 1) w2 → lOK D cI cL ad s w2 H2 locs2 → W p l e room_1 s m #[Value.ref b] below meth c H2 locs2 cells slots Q (F0 m (P + 1 + 6 * n + 3 + 1 + 6 * n + 3) ls [v, v])) :
    W p l e room_1 s m #[Value.ref b] below meth c H locs cells slots Q (F0 m P ls []) := by
  obtain ⟨⟨hx, hb, -⟩, -⟩ := id C
  obtain ⟨w1, w2, a1, a2, a3, a4, a5⟩ := A
  obtain ⟨fs0, f0⟩ := hw.cs.c0
  obtain ⟨fs9, f9⟩ := a3.c39
  have sl0 := hw.cs.sl hw.1
  have sl1 := a3.sl a4
  have sl2 := a5.cs.sl a5.1
  refine lv_aload_n hx hb d1 rfl (lv_at hl 1 rfl) ?_
  refine law_push C O hL hl n 1 (P + 1) _ p1 (by omega) ?_
  rw [← avs_map (ad := ad)]
  refine law_V C hP O (b0 := 0) (rest := []) sc a1 (by rw [a4, hw.1]) (by rw [sl0, sl1]) (by rw [oc]; exact f0) (by rw [oc]; rfl) (by rw [ent_ref, avs_ent]; exact mc) (by rw [avs_len, nc]) d2 hl.1 (by decide) hcl hsl (fun H1 locs1 O1 => ?_)
  refine lv_aload_n hx hb d3 rfl (lv_at hl 2 rfl) ?_
  refine law_push C O1 hL hl n 1 (P + 1 + 6 * n + 3 + 1) _ p2 (by omega) ?_
  rw [← avs_map (ad := ad)]
  refine law_V C hP O1 (b0 := 39) (rest := [v]) sm a2 (by rw [a5.1, a4]) (by rw [sl2, sl1]) (by rw [om]; exact f9) (by rw [om]; rfl) (by rw [ent_ref, avs_ent]; exact mm) (by rw [avs_len, nm]) d4 hl.1 (by show v.category + 0 ≤ 8; omega) hcl hsl (fun H2 locs2 O2 => ?_)
  have k := K w2 H2 locs2 a5 O2
  show W p l e room_1 s m #[Value.ref b] below meth c H2 locs2 cells slots Q (F0 m _ ls [xtv ad v, xtv ad v])
  rw [hvt]
  exact k
theorem law_armI (C : lCx p s m meth c b L xs D cI cL tP) (hP : ad xP = tP) (O : lOK D cI cL ad s w H locs) {i c0 : Nat} (hL : L ≤ 2560) (hl : lv_has ls 8 [(0, .ref b), (1, .ref (ad 0)), (2, .ref (ad 39)), (3, .ref (ad 67)), (4, .int (jI (i : Int)))]) (hi : i + 5 ≤ L) (hcl : cells ≤ 1093) (hsl : slots ≤ 14678) (hw : Inv c0 w)
    (K : ∀ (w2 : xW) (H2 : Heap) (locs2 : List Loc), Inv (c0 + 1) w2 → lOK D cI cL ad s w2 H2 locs2 → W p l e room_1 s m #[Value.ref b] below meth c H2 locs2 cells slots Q (F0 m 2251 ls []))
    {n P ixc ixm kc km : Nat} {xc xm off : Int} (n4 : n ≤ 4)
    (d1 : decode code P = .ok (.aload_n 1, 1)) (p1 : dpush (P + 1) 1 n) (d2 : decode code (P + 1 + 6 * n) = .ok (.invokevirtual ixc, 3)) (d3 : decode code (P + 1 + 6 * n + 3) = .ok (.aload_n 2, 1)) (p2 : dpush (P + 1 + 6 * n + 3 + 1) 1 n) (d4 : decode code (P + 1 + 6 * n + 3 + 1 + 6 * n) = .ok (.invokevirtual ixm, 3)) (d5 : decode code (P + 1 + 6 * n + 3 + 1 + 6 * n + 3) = .ok (.if_icmp .eq off, 3)) (ht : ((P + 1 + 6 * n + 3 + 1 + 6 * n + 3 : Nat) : Int) + off = ((2251 : Nat) : Int))
    (sc : lss.lookup ixc = some (0, kc, 0, xc)) (sm : lss.lookup ixm = some (0, km, 0, xm)) (oc : xown kc = 0) (om : xown km = 12) (nc : xna kc = n) (nm : xna km = n) (mc : n + 1 ≤ xml kc) (mm : n + 1 ≤ xml km)
    (A : ∃ v : Int32, Sp c0 kc km (avs xs (i + 1) n) (.int v) w) :
    W p l e room_1 s m #[Value.ref b] below meth c H locs cells slots Q (F0 m P ls []) := by
  obtain ⟨⟨hx, hb, -⟩, -⟩ := id C
  obtain ⟨v, A⟩ := A
  refine law_two C hP O hL hl hi n4 d1 p1 d2 d3 p2 d4 sc sm oc om nc nm mc mm hcl hsl hw A (show (Value.int v).category ≤ 2 from (by decide : (1 : Nat) ≤ 2)) rfl (fun w2 H2 locs2 h2 O2 => ?_)
  exact lv_icmp_eq (tgt := 2251) hx hb d5 ht (fun _ => K w2 H2 locs2 h2 O2) (fun q => absurd rfl q)
theorem law_armL (C : lCx p s m meth c b L xs D cI cL tP) (hP : ad xP = tP) (O : lOK D cI cL ad s w H locs) {i c0 : Nat} (hL : L ≤ 2560) (hl : lv_has ls 8 [(0, .ref b), (1, .ref (ad 0)), (2, .ref (ad 39)), (3, .ref (ad 67)), (4, .int (jI (i : Int)))]) (hi : i + 5 ≤ L) (hcl : cells ≤ 1093) (hsl : slots ≤ 14678) (hw : Inv c0 w)
    (K : ∀ (w2 : xW) (H2 : Heap) (locs2 : List Loc), Inv (c0 + 1) w2 → lOK D cI cL ad s w2 H2 locs2 → W p l e room_1 s m #[Value.ref b] below meth c H2 locs2 cells slots Q (F0 m 2251 ls []))
    {n P ixc ixm kc km : Nat} {xc xm off : Int} (n4 : n ≤ 4)
    (d1 : decode code P = .ok (.aload_n 1, 1)) (p1 : dpush (P + 1) 1 n) (d2 : decode code (P + 1 + 6 * n) = .ok (.invokevirtual ixc, 3)) (d3 : decode code (P + 1 + 6 * n + 3) = .ok (.aload_n 2, 1)) (p2 : dpush (P + 1 + 6 * n + 3 + 1) 1 n) (d4 : decode code (P + 1 + 6 * n + 3 + 1 + 6 * n) = .ok (.invokevirtual ixm, 3)) (d5 : decode code (P + 1 + 6 * n + 3 + 1 + 6 * n + 3) = .ok (.lcmp, 1)) (d6 : decode code (P + 1 + 6 * n + 3 + 1 + 6 * n + 3 + 1) = .ok (.ifCond .eq off, 3)) (ht : ((P + 1 + 6 * n + 3 + 1 + 6 * n + 3 + 1 : Nat) : Int) + off = ((2251 : Nat) : Int))
    (sc : lss.lookup ixc = some (0, kc, 0, xc)) (sm : lss.lookup ixm = some (0, km, 0, xm)) (oc : xown kc = 0) (om : xown km = 12) (nc : xna kc = n) (nm : xna km = n) (mc : n + 1 ≤ xml kc) (mm : n + 1 ≤ xml km)
    (A : ∃ v : Int64, Sp c0 kc km (avs xs (i + 1) n) (.long v) w) :
    W p l e room_1 s m #[Value.ref b] below meth c H locs cells slots Q (F0 m P ls []) := by
  obtain ⟨⟨hx, hb, -⟩, -⟩ := id C
  obtain ⟨v, A⟩ := A
  refine law_two C hP O hL hl hi n4 d1 p1 d2 d3 p2 d4 sc sm oc om nc nm mc mm hcl hsl hw A (show (Value.long v).category ≤ 2 from (by decide : (2 : Nat) ≤ 2)) rfl (fun w2 H2 locs2 h2 O2 => ?_)
  refine W.lcmp hx hb d5 ?_
  rw [lcmp_self]
  exact lv_if_eq (tgt := 2251) hx hb d6 ht (fun _ => K w2 H2 locs2 h2 O2) (fun q => absurd rfl q)
end LW3
