/-! THE START OF THE LAW, AND THE CLAIM -/
theorem l_inst : ∀ ci, ci < 15 → xobj ci = true → Cond.instantiable (xcn.getD ci "") (xNc ci) ∈ lw_tbl := by decide +kernel
theorem l_known {args : Array Value} {s : State} (hts : ∀ w ∈ lw_tbl, w.before args s = true) : ∃ (D : va_G) (cI cL : ClassId), va_K D xcl (xTys cI cL) s := by
  have obj : ∀ c, c < 15 → xobj c = true → ∃ (cC : ClassId) (iS : Nat → Nat), u_Kn s (xcn.getD c "") (xFc c) (xNc c) cC iS := fun c hc ho => u_known hts (x_cls hc).1 (hts _ (l_inst c hc ho))
  have all : ∀ c : Nat, ∃ (cC : ClassId) (iS : Nat → Nat), ∀ q : vw_C, xcl[c]? = some q → u_Kn s q.1 q.2.1 q.2.2 cC iS := by
    intro c
    by_cases hc : c < 15
    · by_cases ho : xobj c = true
      · obtain ⟨cC, iS, h⟩ := obj c hc ho
        refine ⟨cC, iS, fun q hq => ?_⟩
        rw [x_cl c hc ho] at hq
        cases hq
        exact h
      · obtain ⟨cC, iS, h⟩ := obj 0 (by decide) rfl
        refine ⟨cC, iS, fun q hq => ?_⟩
        have e : xcl[c]? = some (xcn.getD 0 "", xFc 0, xNc 0) := by
          have h3 : c = 11 ∨ c = 13 ∨ c = 14 := by
            unfold xobj at ho
            simp at ho
            omega
          rcases h3 with rfl | rfl | rfl <;> rfl
        rw [e] at hq
        cases hq
        exact h
    · exact ⟨0, fun _ => 0, fun q hq => absurd (x_clOf hq) hc⟩
  obtain ⟨cI, kI, compI, i1, i2, i3⟩ := Cond.arrayClass_spec (hts _ (List.mem_of_getElem? x_arrI))
  obtain ⟨cL, kL, compL, l1, l2, l3⟩ := Cond.arrayClass_spec (hts _ (List.mem_of_getElem? x_arrL))
  refine ⟨(fun c => (all c).choose, fun c => (all c).choose_spec.choose), cI, cL, fun c q hq => (all c).choose_spec.choose_spec q hq, fun k q hk => ?_⟩
  match k, hk with
  | 0, hk =>
    cases hk
    exact ⟨fun n z => ⟨fun k h => (by cases h), kI, i2, compI, i3⟩, i1⟩
  | 1, hk =>
    cases hk
    exact ⟨fun n z => ⟨fun k h => (by cases h), kL, l2, compL, l3⟩, l1⟩
  | k + 2, hk => exact absurd hk (by simp)
abbrev tPR : Term := .static "BernoulliWays" "PRIMES" "[I"
theorem l_el : ∀ j : Nat, j < 46 → Cond.eq (.elem tPR (.int (Int32.ofNat j))) (.int (xpr j)) ∈ flatC (Jvm.Cond.and given_1 narrow_1) := by decide +kernel
theorem l_fl : Cond.arrayOf tPR .int ∈ flatC (Jvm.Cond.and given_1 narrow_1) ∧ Cond.eq (.length tPR) (.int 46) ∈ flatC (Jvm.Cond.and given_1 narrow_1) ∧ Cond.isRef (.static Bundle.tN "UNASSIGNED_STACK" Bundle.steD) ∈ flatC (Jvm.Cond.and given_1 narrow_1) ∧ Cond.isRef (.static Bundle.tN "SUPPRESSED_SENTINEL" Bundle.listD) ∈ flatC (Jvm.Cond.and given_1 narrow_1) ∧ Cond.exactly (.string "BernoulliWays" 158) "java/lang/String" ∈ flatC (Jvm.Cond.and given_1 narrow_1) := by decide +kernel
theorem l_ws : Cond.laysStatic "BernoulliWays" "PRIMES" "[I" ∈ lw_tbl ∧ Cond.initialized "BernoulliWays" ∈ lw_tbl := by decide +kernel
theorem l_st {s : State} {b : Nat} (hts : ∀ w ∈ lw_tbl, w.before #[Value.ref b] s = true) (hgv : (Jvm.Cond.and given_1 narrow_1).before #[Value.ref b] s = true) : (∃ tP, xSt tP (lA s) s s.heap) ∧ nPre (lA s) s := by
  have hs := flat_of_before _ hgv
  have hA : ∀ a : Nat, a < s.heap.size → ¬ lA s a := fun a h => Nat.not_le.mpr h
  obtain ⟨t, h1, h2⟩ := va_Tof (args := #[Value.ref b]) (s := s) (tm := tPR) (ty := .int) (N := 46) (f := fun j => .int (xpr j)) (A := lA s) (by decide) (hs _ l_fl.1) (va_eqt (hs _ l_fl.2.1)) (fun j hj => va_eqt (hs _ (l_el j hj))) hA
  refine ⟨⟨t, va_Zof (hts _ l_ws.1) (hts _ l_ws.2) h1 hA, h2, fun w hw hn => va_Nw.of (xNw.tab hn) (hts w hw)⟩, ?_⟩
  obtain ⟨a, -, -, -, q1, -⟩ := Cond.exactly_spec (args := #[Value.ref b]) (first := s) (o := none) (s := s) (idx := []) (hs _ l_fl.2.2.2.2)
  exact ⟨vx_Zqof (hts _ n_w2.1) (hts _ n_w2.2.2) (hs _ l_fl.2.2.1) hA, vx_Zqof (hts _ n_w2.2.1) (hts _ n_w2.2.2) (hs _ l_fl.2.2.2.1) hA, fun w hw => va_Nw.of (nOdd_tab w hw) (hts w (n_odd w hw)), a, vk_R.of (hts _ n_w1.2.2.2) q1⟩
section LW9
variable {p : Program} {l : Launch} {e : Env} {s : State} {m : MethodId} {below : List Frame} {meth : Method} {c : Code} {b L : Nat} {xs : Nat → Int32} {D : va_G} {cI cL : ClassId} {tP : Nat} {ad : Nat → Nat} {w : xW} {H H1 : Heap} {locs : List Loc} {cells slots : Nat} {Q : State → Prop} {ls : Array Slot} {pc : Nat} {st : List Value}
theorem lOK.push {c' : xC} (O : lOK D cI cL ad s w H locs) (hlt : w.length + 1 < xP) (hc : va_at D xcl (H.size, xte cI cL ad c') H1) (hz : H1.size = H.size + 1) (oq : ∀ q, q < H.size → H1[q]? = H[q]?) : ad w.length = H.size ∧ lOK D cI cL ad s (w ++ [c']) H1 locs := by
  obtain ⟨hP, hD, hS, hle, had⟩ := O
  have e0 : ad w.length = H.size := by
    have := had 0 (by omega)
    simpa using this
  have hk : ∀ (k : Nat) (x : Nat × va_E), (xtw cI cL ad w)[k]? = some x → H1[x.1]? = H[x.1]? := fun k x hx => oq x.1 ((hP k x hx).lt)
  refine ⟨e0, ?_, ?_, ⟨Nat.le_trans hS.1 (by omega), fun x h1 h2 => (oq x (Nat.lt_of_lt_of_le h1 hS.1)).trans (hS.2.1 x h1 h2), hS.2.2⟩, by rw [List.length_append]; simp; omega, fun j hj => ?_⟩
  · rw [xtw_app, e0]
    refine (hP.kept hk).app fun k x hx => ?_
    have hz : k < 1 := (List.getElem?_eq_some_iff.mp hx).1
    rw [show k = 0 by omega] at hx
    cases hx
    exact hc
  · rw [xtw_app, e0]
    exact hD.push hP rfl hS.1
  · rw [List.length_append] at hj ⊢
    simp only [List.length_singleton] at hj ⊢
    rw [show w.length + 1 + j = w.length + (1 + j) by omega, had (1 + j) (by omega), hz]
    omega
theorem law_new (C : lCx p s m meth c b L xs D cI cL tP) (O : lOK D cI cL ad s w H locs) {ix ci a : Nat} {x : Int} (hs : lss.lookup ix = some (8, ci, a, x)) (hc : ci < 15) (ho : xobj ci = true) (hd : decode code pc = .ok (.new ix, 3)) (hlt : w.length + 1 < xP) (hcl : cells + 1 ≤ 1093) (hsl : slots + xNc ci ≤ 14678)
    (kk : ∀ H1 : Heap, lOK D cI cL ad s (w ++ [.inr (ci, xvs.getD ci [])]) H1 locs → W p l e room_1 s m #[Value.ref b] below meth c H1 locs (cells + 1) (slots + xNc ci) Q (F0 m (pc + 3) ls (.ref (ad w.length) :: st))) :
    W p l e room_1 s m #[Value.ref b] below meth c H locs cells slots Q (F0 m pc ls st) := by
  obtain ⟨⟨hx, hb, hr, hml, hown, hts, -⟩, hK, -⟩ := id C
  have hKn := hK.1 ci _ (x_cl _ hc ho)
  have hin : ∀ u ∈ u_ws (xcn.getD ci "") (xFc ci) (xNc ci), u ∈ lw_tbl := fun u hu => (x_cls hc).1 u hu
  refine W.newcK (C := xcn.getD ci "") (n := xNc ci) hx hb hown (l_word C hs (u := .classLink "BernoulliWaysLaw" ix (xcn.getD ci "")) (by simp [xwords])) (l_word C hs (u := .instantiable (xcn.getD ci "") (xNc ci)) (by simp [xwords, xNc])) (l_word C hs (u := .initialized (xcn.getD ci "")) (by simp [xwords])) rfl hd hcl hsl hKn.2.1 rfl fun H1 kC hkC e1 z1 o1 => ?_
  have hat : va_at D xcl (H.size, xte cI cL ad (.inr (ci, xvs.getD ci []))) H1 := by
    show va_at D xcl (H.size, .inr (ci, (xvs.getD ci []).map (xtv ad))) H1
    rw [x_vmap hc]
    exact ⟨_, x_cl _ hc ho, (u_born (xTy ci) hts hin hKn hkC e1 (x_tyOk hc)).to (fun j hj => x_vdef hc hj)⟩
  obtain ⟨ea, O1⟩ := O.push hlt hat z1 o1
  have k := kk H1 O1
  rw [ea] at k
  exact k
end LW9
theorem l_sites : lss.lookup 8 = some (8, 0, 0, 0) ∧ lss.lookup 15 = some (0, 0, 2, 0) ∧ lss.lookup 16 = some (8, 12, 0, 0) ∧ lss.lookup 18 = some (0, 188, 2, 0) ∧ xNc 0 = 16 ∧ xNc 12 = 34 ∧ (xy 0).name = "<init>" ∧ (xy 188).name = "<init>" ∧ xret 0 = none ∧ xret 188 = none ∧ 1 ≤ xml 0 ∧ 1 ≤ xml 188 ∧ 0 = xna 0 ∧ 0 = xna 188 := by decide +kernel
theorem xCall.grow {l : Launch} {D : va_G} {cI cL : ClassId} {z : Nat} {as : List Value} {w w1 : xW} {v1 : Option Value} (h : xCall z as w (v1, w1)) : xsl w ≤ xsl w1 := by
  obtain ⟨n, hn⟩ := h
  exact (x_sound l D cI cL n _ _ _ _ _ _ _ (hn n (Nat.le_refl n))).1.2
theorem whole_start {p : Program} {e : Env} {s : State} {m : MethodId} {below : List Frame} {meth : Method} {c : Code} (l : Launch) (hflags : l.flags = flags0) {b L : Nat} {xs : Nat → Int32} (hL : L ≤ 2560) (C0 : lw_At p s m meth c b L xs) : W p l e room_1 s m #[Value.ref b] below meth c s.heap [] 0 0 (lw_Z below #[Value.ref b] s) (entryFrame m ([Value.ref b] : List Value).toArray 8) := by
  have hlt : l.stackTraces = false := by
    unfold Launch.stackTraces
    rw [hflags]
    decide +kernel
  obtain ⟨hx, hb, hr, hml, hown, hts, hX, hbl, hlocks, hgv⟩ := id C0
  obtain ⟨D, cI, cL, hK⟩ := l_known hts
  obtain ⟨⟨tP, hSt⟩, hN⟩ := l_st hts hgv
  have C : lCx p s m meth c b L xs D cI cL tP := ⟨C0, hK, hSt⟩
  obtain ⟨ad, had⟩ : ∃ z : Nat → Nat, z = fun j => if j = xP then tP else s.heap.size + j := ⟨_, rfl⟩
  have hP : ad xP = tP := by rw [had]; exact if_pos rfl
  have O0 : lOK D cI cL ad s [] s.heap [] := ⟨fun k q h => by simp [xtw] at h, ⟨fun i j p q h => by simp [xtw] at h, fun k q h => by simp [xtw] at h⟩, va_S.rf, by decide, fun j hj => by
    rw [List.length_nil, Nat.zero_add] at hj ⊢
    rw [had]
    exact if_neg (by omega)⟩
  obtain ⟨w1, w2, a1, a2, a3, a4, a5, a6⟩ := K_start
  obtain ⟨s8, s15, s16, s18, n0, n12, i0, i188, r0, r188, m0, m188, p0, p188⟩ := l_sites
  have g1 : xsl [.inr (0, xvs.getD 0 [])] ≤ xsl w1 := a1.grow (l := l) (D := D) (cI := cI) (cL := cL)
  have g2 : xsl (w1 ++ [.inr (12, xvs.getD 12 [])]) ≤ xsl w2 := a3.grow (l := l) (D := D) (cI := cI) (cL := cL)
  have l3 : (w2 ++ [aL 1 zL]).length = 68 := by rw [List.length_append, a4]; rfl
  have t3 := a5.1.sl l3
  rw [xsl_app, show xsz (aL 1 zL) = 1 from rfl] at t3
  rw [show xsl [.inr (0, xvs.getD 0 [])] = 16 from rfl] at g1
  rw [xsl_app, show xsz (.inr (12, xvs.getD 12 [])) = 34 from rfl] at g2
  have okS0 : okS 0 rE (-1) (fun _ => 0) [] := ⟨by decide, by decide, by decide, fun n hn => by omega, fun n hn => by omega, by decide, fun q hq => by simp at hq⟩
  have inv0 : Inv 0 (w2 ++ [aL 1 zL]) := ⟨l3, rE, -1, fun _ => 0, [], okS0, a5, a6⟩
  have hl0 := lv_entry ([Value.ref b]) (n := 8) (show 1 ≤ 8 by decide)
  rw [lg_entry_eq]
  generalize (lg_sl [Value.ref b] ++ List.replicate (8 - (lg_sl [Value.ref b]).length) Slot.unset).toArray = ls at hl0 ⊢
  have hl : lv_has ls 8 [(0, .ref b)] := hl0
  refine law_new C O0 s8 (by decide) rfl dl_0 (by decide) (by decide) (by rw [n0]; decide) (fun H1 O1 => ?_)
  rw [n0]
  refine lv_dup hx hb dl_3 rfl ?_
  refine law_I (mc := 38) (ms := xsl w1 - 16) C hP O1 (b0 := 0) (rest := [.ref 0]) s15 i0 r0 a1 (by rw [a2]; rfl) (by show xsl w1 - 16 + 16 = xsl w1; omega) m0 p0 dl_4 hl.1 (by decide) (by decide) (by omega) (fun H2 locs2 O2 => ?_)
  refine lv_astore_n (lv' := [(1, .ref (ad 0)), (0, .ref b)]) hx hb dl_7 rfl hl (by decide) rfl (fun ls2 hl2 => ?_)
  refine law_new C O2 s16 (by decide) rfl dl_8 (by rw [a2]; decide) (by decide) (by rw [n12]; omega) (fun H3 O3 => ?_)
  rw [n12, a2]
  refine lv_dup hx hb dl_11 rfl ?_
  refine law_I (mc := 27) (ms := xsl w2 - (xsl w1 + 34)) C hP O3 (b0 := 39) (rest := [.ref 39]) s18 i188 r188 a3 (by rw [a4, List.length_append, a2]; rfl) (by rw [xsl_app, show xsz (.inr (12, xvs.getD 12 [])) = 34 from rfl]; omega) m188 p188 dl_12 hl2.1 (by decide) (by decide) (by omega) (fun H4 locs4 O4 => ?_)
  refine lv_astore_n (lv' := [(2, .ref (ad 39)), (1, .ref (ad 0)), (0, .ref b)]) hx hb dl_15 rfl hl2 (by decide) rfl (fun ls4 hl4 => ?_)
  refine lv_iconst (v := 1) hx hb dl_16 rfl ?_
  have hw1 : (Cond.arrayClass .long).before #[Value.ref b] s = true := hts _ (List.mem_of_getElem? x_arrL)
  refine va_newaK (atype := .long) (N := 1) hx hb hw1 rfl dl_17 rfl (by decide) (by decide) (by decide) (by decide) (by show _ + 1 ≤ 14678; omega) rfl fun H5 cA e5 z5 o5 hAr hNm => ?_
  have hc1 : s.vm.findClass ("[" ++ FieldType.long.toString) = some cL := (hK.2 1 _ rfl).2
  have hcc : cA = cL := Option.some.inj (hNm.symm.trans hc1)
  subst hcc
  obtain ⟨ea, O5⟩ := O4.push (c' := aL 1 zL) (by rw [a4]; decide) e5 z5 o5
  rw [a4] at ea
  show W p l e room_1 s m #[Value.ref b] below meth c H5 locs4 _ _ _ (F0 m 19 ls4 [.ref H4.size])
  rw [← ea]
  refine lv_astore_n (lv' := [(3, .ref (ad 67)), (2, .ref (ad 39)), (1, .ref (ad 0)), (0, .ref b)]) hx hb dl_19 rfl hl4 (by decide) rfl (fun ls5 hl5 => ?_)
  refine lv_iconst (v := 0) hx hb dl_20 rfl ?_
  refine lv_istore (lv' := [(4, .int 0), (3, .ref (ad 67)), (2, .ref (ad 39)), (1, .ref (ad 0)), (0, .ref b)]) hx hb dl_21 hl5 (by decide) rfl (fun ls6 hl6 => ?_)
  refine W.widen (k := 68 + 0) (n := 6480 + 6 * 0) (by decide) (by omega) ?_
  exact law_loop hlt C hN hL 513 0 ad (w2 ++ [aL 1 zL]) H5 locs4 ls6 (by omega) (by omega) inv0 hP O5 (lv_sub hl6 [4, 3, 2, 1, 0] rfl)
set_option maxHeartbeats 4000000 in
theorem lw_walk (l : Launch) (hflags : l.flags = flags0) (b : Addr) (xs : List Int32) : MetFree l x (headSpec (Jvm.Cond.code x code maxLocals ret :: tables_1) room_1) (lw_P b xs) (fun _ _ _ _ _ => True) lw_Q := by
  refine MetFree.of_bodyS (code := code) (maxLocals := maxLocals) (ret := ret) (by decide) ?_ ?_
  · intro args s m h hn
    obtain ⟨meth, c, h1, h2, h3, h4, h5, h6, -, -⟩ := Cond.code_spec hn (atoms_spec (ws := Jvm.Cond.code x code maxLocals ret :: tables_1) h _ List.mem_cons_self)
    exact ⟨meth, c, h1, h2, h3, h4, h5, h6⟩
  · intro p e s m args below meth c s₁ B hml0 hP _
    obtain ⟨rfl, hx, hbd, hgv⟩ := hP
    obtain ⟨scr, harrAt, hlist, hof, hsmall⟩ := hx
    obtain ⟨hcb, hkn, -, -⟩ := State.arrayAt?_spec harrAt
    have hown : s.vm.findClass R_law = some m.cls := findClass_of_methodNamed B.named
    have hts0 : ∀ c ∈ (Jvm.Cond.code x code maxLocals ret :: tables_1), c.before #[Value.ref b] s = true := atoms_spec (ws := Jvm.Cond.code x code maxLocals ret :: tables_1) B.pre
    have hts : ∀ w ∈ lw_tbl, w.before #[Value.ref b] s = true := k2_hts_sels lw_privs (fun w hw => hts0 w (List.mem_cons_of_mem _ hw)) lw_privs_ok
    have hml : c.maxLocals = 8 := B.maxLocals_eq (hts0 _ List.mem_cons_self)
    have X₀ : Stand p l e room_1 s m #[Value.ref b] below meth c s₁ [] 0 0 := Stand.of_body B
    have hh0 : s₁.heap = s.heap := by rw [B.state]; rfl
    have hsz : scr.slots.size = xs.length := by rw [← Array.length_toList, hlist, List.length_map]
    have hval : ∀ j : Nat, j < xs.length → scr.slots[j]? = some (.int (xs.getD j 0)) := fun j hj => by
      rw [← Array.getElem?_toList, hlist]
      simp [hj]
    have hbl : b < s.heap.size := (Array.getElem?_eq_some_iff.mp hcb).1
    have hX : va_X b xs.length (fun j => xs.getD j 0) s s.heap := ⟨scr, hcb, hof, hkn, hsz, hval⟩
    have K : W p l e room_1 s m #[Value.ref b] below meth c s₁.heap [] 0 0 (lw_Z below #[Value.ref b] s) (entryFrame m ([Value.ref b] : List Value).toArray 8) := by
      rw [hh0]
      exact whole_start l hflags hbd ⟨B.exec, B.bytes, B.returns, hml, hown, hts, hX, hbl, B.notSynchronized, hgv⟩
    obtain ⟨t, a1, o, b1, b2, b3⟩ := K s₁ rfl X₀
    exact ⟨t, o, a1, b1, b2, b3⟩
theorem lw_pre_spec {args : Array Value} {s : State} (h : (Jvm.Cond.and given_1 narrow_1).before args s = true) (hr : rest_1_c.before args s = true) : ∃ (b : Addr) (xs : List Int32), lw_P b xs args s := by
  have hs := flat_of_before _ h
  have hq := flat_of_before _ hr
  have hc : (Cond.count 1).before args s = true := hs _ (by decide +kernel)
  have harr : (Cond.arrayOf (.arg 0) .int).before args s = true := hs _ (by decide +kernel)
  have hle : (Cond.le (.length (.arg 0)) (.int 2560)).before args s = true := hs _ (by decide +kernel)
  have hlen : (Cond.isInt (.length (.arg 0))).before args s = true := hq _ (by decide +kernel)
  have hall : (Cond.all (.arg 0) (.isInt (.elem (.arg 0) (.index 0)))).before args s = true := hq _ (by decide +kernel)
  obtain ⟨b, xs, hb, hx⟩ := State.ints_of_pre rfl harr hlen hall
  have hsm : xs.length < 2 ^ 31 := hx.choose_spec.2.2.2
  have hev : (Term.length (.arg 0)).eval args s none [] s = some (.int xs.length.toInt32) := hx.length_eval hb
  have hv := Cond.le_ints hev (show (Term.int 2560).eval args s none [] s = some (.int 2560) from rfl)
  have hd : xs.length.toInt32 ≤ 2560 := by
    simpa [Cond.before, Cond.holds, hv] using hle
  have hN : xs.length ≤ 2560 := (Int32.ofNat_le_ofNat hsm (by decide)).mp (show Int32.ofNat xs.length ≤ Int32.ofNat 2560 from hd)
  exact ⟨b, xs, Cond.one_arg hc (show args[0]? = some (.ref b) from hb), hx, hN, h⟩
theorem lw_comes (l : Launch) (hflags : l.flags = flags0) : Comes l x (Jvm.Cond.code x code maxLocals ret :: tables_1) room_1 (fun tb e args s => Calls_1 tb e args s ∧ rest_1 tb e args s ∧ Pre_1 tb e args s)
    (fun _ _ args s o t => lw_Q args s o t) := by
  intro p e ha hc hk s m args below hf hfit hheap happ hpre
  obtain ⟨b, xs, hP⟩ := lw_pre_spec hpre.2.2 hpre.2.1
  obtain ⟨k, o, h1, h2, h3, hQ⟩ := lw_walk l hflags b xs p e ha hc hk s m args below hf ((Spec.applies_iff_loose hf).mp happ).1 hP trivial
  exact ⟨k, o, h1, h2, h3, hQ⟩
theorem lw_frame {s t : State} {o : Outcome} {args : Array Value} (h : Framed s o t [] 1093 14678) :
    Framed s o t (fieldLocs frame_1_writes args s ++ arrayLocs frame_1_arrays args s ++ staticLocs frame_1_statics s) 1093 14678 := h
theorem lw_limb (L : Cond) (hL : ∀ (args : Array Value) (s t : State), L.after args s (.returned (some (.int 1))) t = true) :
    ArmFor flags0 classFile x code maxLocals ret World_1 tables_1 room_1 Calls_1 rest_1 Pre_1
      (fun tb e a s o t => postC L tb e a s o t ∧ Framed s o t (fieldLocs frame_1_writes a s ++ arrayLocs frame_1_arrays a s ++ staticLocs frame_1_statics s) 1093 14678) := by
  intro l hflags _ _ p e ha hc hk s m args below hf hfit hheap happ hpre
  obtain ⟨k, o, h1, h2, h3, rfl, hF⟩ := lw_comes l hflags p e ha hc hk s m args below hf hfit hheap happ hpre
  exact ⟨k, _, h1, h2, h3, hL args s _, lw_frame hF⟩
theorem i_vc : Claimed_1_1 ∧ Claimed_1_2 := ⟨lw_limb limb_1_1 (fun args s t => by simp [limb_1_1, Cond.after, Cond.holds, Cond.value]), lw_limb limb_1_2 (fun args s t => Cond.after_iff.mpr (by
  first | (rw [show limb_1_2 = Cond.eq .result (.int 1) from rfl, Cond.eq_ints (x := 1) (y := 1) rfl rfl]; simp; done) | (simp [limb_1_2, Cond.value, Term.eval]; done)))⟩
