/-! THE ARM OF number -/
theorem map_ad {ad ad' : Nat → Nat} (hh : ∀ j, j < 68 → ad' j = ad j) : ∀ {fs : List Value}, fs.all (fun v => match v with | .ref r => decide (r < 68) | _ => true) = true → fs.map (xtv ad') = fs.map (xtv ad)
  | [], _ => rfl
  | v :: fs, h => by
    rw [List.all_cons, Bool.and_eq_true] at h
    rw [List.map_cons, List.map_cons, map_ad hh h.2]
    congr 1
    cases v with
    | ref r =>
      show Value.ref (ad' r) = Value.ref (ad r)
      rw [hh r (of_decide_eq_true h.1)]
    | _ => rfl
theorem te_obj {cI cL : ClassId} {ad ad' : Nat → Nat} (hh : ∀ j, j < 68 → ad' j = ad j) {k : Nat} {fs : List Value} (h : fs.all (fun v => match v with | .ref r => decide (r < 68) | _ => true) = true) : xte cI cL ad' (.inr (k, fs)) = xte cI cL ad (.inr (k, fs)) := by
  show Sum.inr (k, fs.map (xtv ad')) = Sum.inr (k, fs.map (xtv ad))
  rw [map_ad hh h]
theorem cshp_te {cI cL : ClassId} {ad ad' : Nat → Nat} (hh : ∀ j, j < 68 → ad' j = ad j) {i : Nat} {c : xC} (hi : i < 68) (h : cshp i c) : xte cI cL ad' c = xte cI cL ad c := by
  match i, hi with
  | 0, _ => obtain ⟨_, rfl⟩ := h; exact te_obj hh rfl
  | 1, _ => rw [show c = _ from h]; exact te_obj hh rfl
  | 2, _ => obtain ⟨_, rfl⟩ := h; exact rfl
  | 3, _ => obtain ⟨_, _, _, rfl⟩ := h; exact te_obj hh rfl
  | 4, _ => obtain ⟨_, rfl⟩ := h; exact te_obj hh rfl
  | 5, _ => obtain ⟨_, rfl⟩ := h; exact rfl
  | 6, _ => obtain ⟨_, rfl⟩ := h; exact rfl
  | 7, _ => rw [show c = _ from h]; exact te_obj hh rfl
  | 8, _ => obtain ⟨_, rfl⟩ := h; exact rfl
  | 9, _ => obtain ⟨_, rfl⟩ := h; exact rfl
  | 10, _ => obtain ⟨_, rfl⟩ := h; exact rfl
  | 11, _ => obtain ⟨_, _, _, rfl⟩ := h; exact te_obj hh rfl
  | 12, _ => rw [show c = _ from h]; exact te_obj hh rfl
  | 13, _ => obtain ⟨_, rfl⟩ := h; exact rfl
  | 14, _ => obtain ⟨_, rfl⟩ := h; exact rfl
  | 15, _ => obtain ⟨_, rfl⟩ := h; exact rfl
  | 16, _ => obtain ⟨_, _, _, rfl⟩ := h; exact te_obj hh rfl
  | 17, _ => rw [show c = _ from h]; exact te_obj hh rfl
  | 18, _ => obtain ⟨_, rfl⟩ := h; exact rfl
  | 19, _ => obtain ⟨_, rfl⟩ := h; exact rfl
  | 20, _ => obtain ⟨_, rfl⟩ := h; exact rfl
  | 21, _ => obtain ⟨_, _, _, rfl⟩ := h; exact te_obj hh rfl
  | 22, _ => obtain ⟨_, rfl⟩ := h; exact rfl
  | 23, _ => rw [show c = _ from h]; exact te_obj hh rfl
  | 24, _ => obtain ⟨_, rfl⟩ := h; exact te_obj hh rfl
  | 25, _ => obtain ⟨_, rfl⟩ := h; exact rfl
  | 26, _ => obtain ⟨_, rfl⟩ := h; exact rfl
  | 27, _ => obtain ⟨_, rfl⟩ := h; exact rfl
  | 28, _ => obtain ⟨_, _, rfl⟩ := h; exact te_obj hh rfl
  | 29, _ => obtain ⟨_, rfl⟩ := h; exact rfl
  | 30, _ => obtain ⟨_, rfl⟩ := h; exact rfl
  | 31, _ => obtain ⟨_, _, rfl⟩ := h; exact te_obj hh rfl
  | 32, _ => obtain ⟨_, rfl⟩ := h; exact rfl
  | 33, _ => obtain ⟨_, rfl⟩ := h; exact rfl
  | 34, _ => obtain ⟨_, rfl⟩ := h; exact te_obj hh rfl
  | 35, _ => obtain ⟨_, rfl⟩ := h; exact rfl
  | 36, _ => obtain ⟨_, _, _, rfl⟩ := h; exact te_obj hh rfl
  | 37, _ => obtain ⟨_, rfl⟩ := h; exact rfl
  | 38, _ => obtain ⟨_, rfl⟩ := h; exact rfl
  | 39, _ => obtain ⟨_, _, _, _, _, _, _, rfl⟩ := h; exact te_obj hh rfl
  | 40, _ => obtain ⟨_, rfl⟩ := h; exact rfl
  | 41, _ => obtain ⟨_, rfl⟩ := h; exact rfl
  | 42, _ => obtain ⟨_, rfl⟩ := h; exact rfl
  | 43, _ => obtain ⟨_, rfl⟩ := h; exact rfl
  | 44, _ => obtain ⟨_, rfl⟩ := h; exact rfl
  | 45, _ => obtain ⟨_, rfl⟩ := h; exact rfl
  | 46, _ => obtain ⟨_, rfl⟩ := h; exact rfl
  | 47, _ => obtain ⟨_, rfl⟩ := h; exact rfl
  | 48, _ => obtain ⟨_, rfl⟩ := h; exact rfl
  | 49, _ => obtain ⟨_, rfl⟩ := h; exact rfl
  | 50, _ => obtain ⟨_, rfl⟩ := h; exact rfl
  | 51, _ => obtain ⟨_, rfl⟩ := h; exact rfl
  | 52, _ => obtain ⟨_, rfl⟩ := h; exact rfl
  | 53, _ => obtain ⟨_, rfl⟩ := h; exact rfl
  | 54, _ => obtain ⟨_, rfl⟩ := h; exact rfl
  | 55, _ => obtain ⟨_, rfl⟩ := h; exact rfl
  | 56, _ => obtain ⟨_, rfl⟩ := h; exact rfl
  | 57, _ => obtain ⟨_, rfl⟩ := h; exact rfl
  | 58, _ => obtain ⟨_, rfl⟩ := h; exact rfl
  | 59, _ => obtain ⟨_, rfl⟩ := h; exact rfl
  | 60, _ => obtain ⟨_, rfl⟩ := h; exact rfl
  | 61, _ => obtain ⟨_, rfl⟩ := h; exact rfl
  | 62, _ => obtain ⟨_, rfl⟩ := h; exact rfl
  | 63, _ => obtain ⟨_, rfl⟩ := h; exact rfl
  | 64, _ => obtain ⟨_, rfl⟩ := h; exact rfl
  | 65, _ => obtain ⟨_, rfl⟩ := h; exact rfl
  | 66, _ => obtain ⟨_, rfl⟩ := h; exact rfl
  | 67, _ => obtain ⟨_, rfl⟩ := h; exact rfl
  | n + 68, h => exact absurd h (by omega)
theorem xtw_ad {cI cL : ClassId} {ad ad' : Nat → Nat} {w : xW} (hC : CS w) (hl : w.length = 68) (hh : ∀ j, j < 68 → ad' j = ad j) : xtw cI cL ad' w = xtw cI cL ad w := by
  apply List.ext_getElem?
  intro i
  unfold xtw
  rw [List.getElem?_mapIdx, List.getElem?_mapIdx]
  by_cases q : i < 68
  · obtain ⟨c, h1, h2⟩ := hC.2 i q
    rw [h1, Option.map_some, Option.map_some, hh i q, cshp_te hh q h2]
  · rw [List.getElem?_eq_none (by omega)]
    rfl
theorem P_num {c : Nat} {w : xW} (h : Inv c w) (hc : c < 520) (x0 x1 : Int32) : ∃ (r : Int32) (w' w2 : xW) (vb : Int64),
    ((r = 0 ∧ ∃ w1 f, xCall 187 [.ref 0, .int x0, .int x1] w (some (.long vb), w1) ∧ w1.length = w.length ∧ xsl w1 = xsl w ∧ w1[67]? = some (aL 1 f) ∧ w' = w1.set 67 (aL 1 (vp_updL f 0 vb)) ∧ w2[67]? = some (aL 1 (vp_updL f 0 vb))) ∨ (r = 1 ∧ xCall 116 [.int x1] w (some (.int 0), w) ∧ w' = w)) ∧
    CS w' ∧ w'.length = 68 ∧ xCall 218 [.ref 39, .int x0, .int x1] w' (some (.long vb), w2) ∧ xCall 196 [.ref 39] w2 (some (.int r), w2) ∧ Inv (c + 1) w2 := by
  obtain ⟨hl, E, t, ws, me, ok, h1, h2⟩ := h
  obtain ⟨n, hn, rfl⟩ := jI_of x0
  obtain ⟨x, hx, rfl⟩ := jI_of x1
  by_cases v : 0 ≤ x ∧ x ≤ 2
  · obtain ⟨w1, a1, a2, a3⟩ := c_number ok hn hx v w h1
    obtain ⟨d, k1, k2⟩ := a2.1.2 67 (by decide)
    obtain ⟨f, rfl⟩ := k2
    have C1 : CS (w1.set 67 (aL 1 (vp_updL f 0 (jL (nuS E t n x))))) := a2.1.set ⟨_, rfl⟩
    have s1 : xsame [67] w1 (w1.set 67 (aL 1 (vp_updL f 0 (jL (nuS E t n x))))) := xsame.set (by decide)
    have m1 : mst E t ws me (w1.set 67 (aL 1 (vp_updL f 0 (jL (nuS E t n x))))) := (h2.same a3 (by decide) a2.1).same s1 (by decide) C1
    have c1 : cst E t ws me (w1.set 67 (aL 1 (vp_updL f 0 (jL (nuS E t n x))))) := a2.same s1 (by decide) C1
    obtain ⟨w2, b1, b2, b3, b4⟩ := m_number ok hn hx _ m1
    rw [if_pos v] at b4
    have l1 : w1.length = 68 := a3.1.trans hl
    refine ⟨0, _, w2, _, Or.inl ⟨rfl, w1, f, a1, a3.1, by rw [a2.1.sl l1, h1.1.sl hl], k1, rfl, b3.get (by decide) (set_get k1)⟩, C1, s1.1.trans l1, b1, Z_196 b2.1 ⟨_, b4, rfl⟩, b3.1.trans (s1.1.trans l1), E, t, ws, me, ok_up ok (by omega), c1.same b3 (by decide) b2.1, b2⟩
  · obtain ⟨w2, b1, b2, b3, b4⟩ := m_number ok hn hx _ h2
    rw [if_neg v] at b4
    have ip := C_isPart hx w
    rw [bz_f v] at ip
    exact ⟨1, w, w2, _, Or.inr ⟨rfl, ip, rfl⟩, h1.1, hl, b1, Z_196 b2.1 ⟨_, b4, rfl⟩, b3.1.trans hl, E, t, ws, me, ok_up ok (by omega), h1.same b3 (by decide) b2.1, b2⟩
theorem pn_a : dpush 405 1 2 := fun j hj => match j, hj with
  | 0, _ => ⟨dl_405, dl_406, dl_408, dl_409, dl_410⟩
  | 1, _ => ⟨dl_411, dl_412, dl_414, dl_415, dl_416⟩
theorem pn_b : dpush 424 1 2 := fun j hj => match j, hj with
  | 0, _ => ⟨dl_424, dl_425, dl_427, dl_428, dl_429⟩
  | 1, _ => ⟨dl_430, dl_431, dl_433, dl_434, dl_435⟩
theorem l_good37 : GoodIn lw_tbl (va_wsS "BernoulliWaysLaw" 37 yN wsN) := by
  have good : ∀ w ∈ xtbl, (w.onTables && w.keeps) = true ∨ ∃ ty, w = .arrayClass ty := fun w hw => good_of_word (List.mem_filter.mp hw).2
  intro w hw
  rcases List.mem_append.mp hw with hw | hw
  · have q := n_w4 w (by
      rcases List.mem_cons.mp hw with rfl | hw
      · simp
      · rcases List.mem_cons.mp hw with rfl | hw
        · simp
        · rcases List.mem_cons.mp hw with rfl | hw
          · simp
          · cases hw)
    exact ⟨q.1, good_of_word q.2⟩
  · rcases List.mem_cons.mp hw with rfl | hw
    · exact ⟨n_w3.1, good_of_word n_g1.1⟩
    · exact ⟨(List.mem_filter.mp hw).1, good _ hw⟩
theorem l_37 : yN.cls ≠ "java/lang/invoke/MethodHandle" ∧ yN.cls ≠ "java/lang/invoke/VarHandle" ∧ (parseMethodDescriptor yN.desc).map (fun d => d.parameters.length) = some 4 := by decide +kernel
theorem l_42 : lss.lookup 42 = some (0, 218, 0, 0) ∧ xown 218 = 12 ∧ xna 218 = 2 ∧ 3 ≤ xml 218 ∧ lss.lookup 43 = some (0, 196, 0, 0) ∧ xown 196 = 12 ∧ xna 196 = 0 ∧ 1 ≤ xml 196 := by decide +kernel
section LW4
variable {p : Program} {l : Launch} {e : Env} {s : State} {m : MethodId} {below : List Frame} {meth : Method} {c : Code} {b L : Nat} {xs : Nat → Int32} {D : va_G} {cI cL : ClassId} {tP : Nat} {ad : Nat → Nat} {w : xW} {H : Heap} {locs : List Loc} {cells slots : Nat} {Q : State → Prop} {ls : Array Slot}
theorem law_number (C : lCx p s m meth c b L xs D cI cL tP) (hN : nPre (lA s) s) (hlt : l.stackTraces = false) (hP : ad xP = tP) (O : lOK D cI cL ad s w H locs) {i c0 : Nat} (hL : L ≤ 2560) (hl : lv_has ls 8 [(0, .ref b), (1, .ref (ad 0)), (2, .ref (ad 39)), (3, .ref (ad 67)), (4, .int (jI (i : Int)))]) (hi : i + 5 ≤ L) (hcl : cells + 1 ≤ 1093) (hsl : slots + 6 ≤ 14678) (hw : Inv c0 w) (hc0 : c0 < 520)
    (K : ∀ (ad' : Nat → Nat) (w2 : xW) (H2 : Heap) (locs2 : List Loc) (ls2 : Array Slot), (∀ j, j < 68 → ad' j = ad j) → ad' xP = tP → Inv (c0 + 1) w2 → lOK D cI cL ad' s w2 H2 locs2 → lv_has ls2 8 [(0, .ref b), (1, .ref (ad 0)), (2, .ref (ad 39)), (3, .ref (ad 67)), (4, .int (jI (i : Int)))] → W p l e room_1 s m #[Value.ref b] below meth c H2 locs2 (cells + 1) (slots + 6) Q (F0 m 2251 ls2 [])) :
    W p l e room_1 s m #[Value.ref b] below meth c H locs cells slots Q (F0 m 404 ls []) := by
  obtain ⟨⟨hx, hb, hr, hml, hown, hts, -⟩, hK, hSt⟩ := id C
  obtain ⟨r, w', w2, vb, hcase, C', l', mb, th, hi2⟩ := P_num hw hc0 (xs (i + 1)) (xs (i + 1 + 1))
  obtain ⟨fs0, f0⟩ := hw.cs.c0
  have hM : vx_Met l yN wsN rmN (xPreN D cI cL ad [.ref 0, .int (xs (i + 1)), .int (xs (i + 1 + 1)), .ref 67] w H.size) (va_Qi (fun (q : Int32) (_ : Unit) => q = r) (fun _ t => nB D cI cL ad (va_A (xtw cI cL ad w) H.size) w' t) (va_A (xtw cI cL ad w) H.size)) (vx_X (fun _ : Unit => False) (fun _ _ _ => True) (va_A (xtw cI cL ad w) H.size)) 1 6 (va_A (xtw cI cL ad w) H.size) := by
    rcases hcase with ⟨rfl, w1, f, k1, k2, k3, k4, rfl, -⟩ | ⟨rfl, k1, rfl⟩
    · exact law_num_r D cI cL ad w w1 H.size f0 k1 k2 k3 k4
    · exact law_num_t hlt D cI cL ad w' H.size f0 k1
  refine lv_aload_n hx hb dl_404 rfl (lv_at hl 1 rfl) ?_
  refine law_push C O hL hl 2 1 405 _ pn_a (by omega) ?_
  refine lv_aload_n hx hb dl_417 rfl (lv_at hl 3 rfl) ?_
  refine vx_calli (A0 := lA s) (A1 := va_A (xtw cI cL ad w) H.size) (H0 := s.heap) (mc := 1) (ms := 6) (rest := []) (a := ([Value.ref 0, .int (xs (i + 1)), .int (xs (i + 1 + 1)), .ref 67].map (xtv ad)).toArray)
    (vx_runSX (hh := [(0, 9, 12, 13)]) (bytes := method_3_code) (maxL := 5) (ret := some .int) (n := 4) (As := [Value.ref 0, .int (xs (i + 1)), .int (xs (i + 1 + 1)), .ref 67].map (xtv ad)) ⟨hx, hb, hml, hown, hts⟩ hM (vx_cwSW 4 hts l_good37 rfl rfl rfl l_37 ⟨by decide, by decide⟩) ⟨xPreN.blind, fun U hU hW => ⟨l_pre C hP O [.ref 0, .int (xs (i + 1)), .int (xs (i + 1 + 1)), .ref 67] U hU hW, hN.to hU hW O.2.2.1.2.1 O.sub⟩⟩ rfl rfl hl.1 rfl (lv_room (Nat.le_of_ble_eq_true rfl)) dl_418 ⟨hcl, hsl⟩)
    O.2.2.1 (fun q _ h => O.sub q h) O.sub (fun q _ h => O.sub q h) (fun E ce q9 u t H1 locs1 ht hal hpx => hpx.elim) (fun q u t H1 locs1 ht hal hq hB hs1 hk1 hS1 => ?_)
  obtain ⟨hP1, hD1⟩ := hB
  rw [ht] at hP1
  subst hq
  obtain ⟨ad', had'⟩ : ∃ z : Nat → Nat, z = fun j => if j < 68 then ad j else if j = xP then tP else H1.size + (j - 68) := ⟨_, rfl⟩
  have hh : ∀ j, j < 68 → ad' j = ad j := fun j hj => by rw [had']; exact if_pos hj
  have hxP : xP = 1000000 := rfl
  have hP' : ad' xP = tP := by
    rw [had']
    show (if xP < 68 then ad xP else if xP = xP then tP else H1.size + (xP - 68)) = tP
    rw [if_neg (by rw [hxP]; decide), if_pos rfl]
  have O1 : lOK D cI cL ad' s w' H1 locs1 := by
    refine ⟨by rw [xtw_ad C' l' hh]; exact hP1, by rw [xtw_ad C' l' hh]; exact hD1.weaken (fun k q _ h => O.sub q.1 h), hS1, by rw [l']; decide, fun j hj => ?_⟩
    rw [l'] at hj ⊢
    rw [had']
    show (if 68 + j < 68 then ad (68 + j) else if 68 + j = xP then tP else H1.size + (68 + j - 68)) = H1.size + j
    rw [if_neg (by omega), if_neg (by omega), Nat.add_sub_cancel_left]
  have a0 := hh 0 (by decide)
  have a39 := hh 39 (by decide)
  have a67 := hh 67 (by decide)
  rw [← a0, ← a39, ← a67] at hl
  refine lv_istore (lv' := [(5, .int q), (0, .ref b), (1, .ref (ad' 0)), (2, .ref (ad' 39)), (3, .ref (ad' 67)), (4, .int (jI (i : Int)))]) hx hb dl_421 hl (by decide) rfl (fun ls5 hl5 => ?_)
  have hb5 := lv_sub hl5 [1, 2, 3, 4, 5] rfl
  obtain ⟨l42, o42, n42, m42, l43, o43, n43, m43⟩ := l_42
  obtain ⟨fs9, f9⟩ := C'.c39
  obtain ⟨fs2, f2⟩ := hi2.cs.c39
  have sl1 := C'.sl l'
  have sl2 := hi2.cs.sl hi2.1
  refine lv_aload_n hx hb dl_423 rfl (lv_at hl5 3 rfl) ?_
  refine law_push C O1 hL hb5 2 1 424 _ pn_b (by omega) ?_
  refine law_V C hP' O1 (b0 := 39) (as := [.int (xs (i + 1)), .int (xs (i + 1 + 1))]) (rest := []) l42 mb (by rw [hi2.1, l']) (by rw [sl1, sl2]) (by rw [o42]; exact f9) (by rw [o42]; rfl) m42 (by rw [n42]; rfl) dl_436 hl5.1 (by decide) hcl hsl (fun H2 locs2 O2 => ?_)
  refine lv_lstore (lv' := [(6, .long vb), (5, .int q), (0, .ref b), (1, .ref (ad' 0)), (2, .ref (ad' 39)), (3, .ref (ad' 67)), (4, .int (jI (i : Int)))]) hx hb dl_439 hl5 (by decide) rfl (fun ls6 hl6 => ?_)
  refine lv_aload_n hx hb dl_441 rfl (lv_at hl6 4 rfl) ?_
  refine law_V C hP' O2 (b0 := 39) (as := []) (rest := []) l43 th rfl rfl (by rw [o43]; exact f2) (by rw [o43]; rfl) m43 (by rw [n43]; rfl) dl_442 hl6.1 (by decide) hcl hsl (fun H3 locs3 O3 => ?_)
  refine lv_iload hx hb dl_445 (lv_at hl6 1 rfl) ?_
  refine lv_icmp_eq (tgt := 452) hx hb dl_447 (by decide) (fun _ => ?_) (fun z => absurd rfl z)
  have hbase := lv_sub hl6 [2, 3, 4, 5, 6] rfl
  rw [a0, a39, a67] at hbase
  have fin : W p l e room_1 s m #[Value.ref b] below meth c H3 locs3 (cells + 1) (slots + 6) Q (F0 m 468 ls6 []) := lv_goto (tgt := 2251) hx hb dl_468 (by decide) (K ad' w2 H3 locs3 ls6 hh hP' hi2 O3 hbase)
  refine lv_iload hx hb dl_452 (lv_at hl6 1 rfl) ?_
  refine lv_if_ne (tgt := 468) hx hb dl_454 (by decide) (fun _ => fin) (fun z => ?_)
  rcases hcase with ⟨-, w1, f, k1, k2, k3, k4, -, k6⟩ | ⟨k0, -⟩
  · refine lv_aload_n hx hb dl_457 rfl (lv_at hl6 5 rfl) ?_
    refine lv_iconst (v := 0) hx hb dl_458 rfl ?_
    refine va_lald hx hb hK O3.1 67 1 (xtw_get k6) rfl (show vp_in 0 1 by unfold vp_in; decide) dl_459 ?_
    refine lv_lload hx hb dl_460 (lv_at hl6 0 rfl) ?_
    refine W.lcmp hx hb dl_462 ?_
    refine lv_topi (fun y ey => ?_)
    have y0 : y = 0 := by
      rw [ey]
      show lg_cmp (vp_updL f 0 vb 0) vb = 0
      rw [updL_eq, lcmp_self]
    exact lv_if_eq (tgt := 468) hx hb dl_463 (by decide) (fun _ => fin) (fun z2 => absurd y0 z2)
  · rw [k0] at z
    exact absurd z (by decide)
end LW4
