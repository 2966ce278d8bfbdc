/-! number: what it comes to where it throws; the law's own number, which catches -/
abbrev yN : MethodName := ⟨"BernoulliWaysLaw", "number", "(LBernoulliWays;II[J)I"⟩
def wsN : List Cond := Cond.codeWith yN method_3_code 5 (some .int) [(0, 9, 12, 13)] :: xtbl
/-- what a throw asks beside -/
def nPre (A : Nat → Prop) (U : State) : Prop := vx_Zq Bundle.tN "UNASSIGNED_STACK" Bundle.steD A U U.heap ∧ vx_Zq Bundle.tN "SUPPRESSED_SENTINEL" Bundle.listD A U U.heap ∧ (∀ w ∈ nOdd, va_Nw w U) ∧ ∃ sa, vk_R "BernoulliWays" 158 "what is 0, 1 or 2" sa U
def nB (D : va_G) (cI cL : ClassId) (ad : Nat → Nat) (A : Nat → Prop) (w : xW) (t : State) : Prop := va_P D xcl (xtw cI cL ad w) t.heap ∧ va_D A (xtw cI cL ad w)
theorem nOdd_tab : ∀ w ∈ nOdd, w.onTables = true := by decide +kernel
theorem nPre.calling {A : Nat → Prop} {U : State} {g : JFrame} {mk : MethodId} {a : Array Value} (h : nPre A U) : nPre A (U.calling g mk a) := by
  obtain ⟨h1, h2, h3, sa, h4⟩ := h
  exact ⟨vx_Zq.moved (u := U) (U := U.calling g mk a) (Vm.Alike.refl U.vm) h1, vx_Zq.moved (u := U) (U := U.calling g mk a) (Vm.Alike.refl U.vm) h2, fun w hw => va_Nw.same (u := U) (U := U.calling g mk a) (nOdd_tab w hw) rfl (h3 w hw), sa, vk_R.same (u := U) (U := U.calling g mk a) rfl h4⟩
theorem nOdd_warm {s U : State} (hW : s.WarmedH U.vm) (h : ∀ w ∈ nOdd, va_Nw w s) : ∀ w ∈ nOdd, va_Nw w U := by
  intro w hw
  have q := h w hw
  unfold nOdd at hw
  rcases List.mem_cons.mp hw with rfl | hw
  · exact va_Nw.warmC hW q
  · rcases List.mem_cons.mp hw with rfl | hw
    · exact va_Nw.warmD hW q
    · rcases List.mem_cons.mp hw with rfl | hw
      · exact va_Nw.warmD hW q
      · rcases List.mem_cons.mp hw with rfl | hw
        · exact va_Nw.warmD hW q
        · cases hw
/-- the same, seen from a later heap and fewer cells -/
theorem nPre.to {A B : Nat → Prop} {s U : State} {H : Heap} (h : nPre A s) (hU : U.heap = H) (hW : s.WarmedH U.vm) (hk : ∀ a : Nat, a < s.heap.size → ¬ A a → H[a]? = s.heap[a]?) (hs : ∀ q, B q → A q) : nPre B U := by
  obtain ⟨h1, h2, h3, sa, h4⟩ := h
  refine ⟨?_, ?_, nOdd_warm hW h3, sa, vk_R.warm hW h4⟩
  · rw [hU]; exact (vx_Zq.moved hW.alike (h1.kept hk)).narrow hs
  · rw [hU]; exact (vx_Zq.moved hW.alike (h2.kept hk)).narrow hs
def xPreN (D : va_G) (cI cL : ClassId) (ad : Nat → Nat) (as : List Value) (w : xW) (sz : Nat) (a : Array Value) (U : State) : Prop := xPre D cI cL ad as w sz a U ∧ nPre (va_A (xtw cI cL ad w) sz) U
theorem xPreN.blind {D : va_G} {cI cL : ClassId} {ad : Nat → Nat} {as : List Value} {w : xW} {sz : Nat} : FrameBlind (xPreN D cI cL ad as w sz) := by
  intro a U g mk q
  exact ⟨xPre.blind a U g mk q.1, q.2.calling⟩
abbrev rmT : Room := { frames := 6, cells := 1, slots := 6, locals := 120 }
abbrev rmN : Room := { frames := 8, cells := 1, slots := 6, locals := 200 }
theorem n_plain : plainName (xy 187).cls = true ∧ plainName yN.cls = true := by decide +kernel
theorem num_throw {l : Launch} (hl : l.stackTraces = false) (D : va_G) (cI cL : ClassId) (ad : Nat → Nat) (w : xW) (sz : Nat) {n x : Int32} (hx : xCall 116 [.int x] w (some (.int 0), w)) :
    vx_Met l (xy 187) (xTs 187) rmT (xPreN D cI cL ad [.ref 0, .int n, .int x] w sz) (va_Ql (fun (_ : Int64) (_ : Unit) => False) (fun _ _ => True) (va_A (xtw cI cL ad w) sz)) (vx_X (fun _ : Unit => True) (fun E _ t => E = nse ∧ nB D cI cL ad (va_A (xtw cI cL ad w) sz) w t) (va_A (xtw cI cL ad w) sz)) 1 6 (va_A (xtw cI cL ad w) sz) := by
  refine vx_ofW (cc := xb 187) (maxL := xml 187) (ret := xret 187) n_plain.1 rfl ?_
  intro p e s m args below meth c s₁ B hml htab hv
  obtain ⟨⟨rfl, hsz, hP, hK, hD0, hle, had, hSt⟩, hU, hN, hodd, sa, hstr⟩ := hv
  subst hsz
  have hts := atoms_spec (ws := xTs 187) B.pre
  have hown : s.vm.findClass (xy 187).cls = some m.cls := findClass_of_methodNamed B.named
  have hz : 187 < 307 := by decide
  have hown2 : s.vm.findClass "BernoulliWays" = some m.cls := by
    have e : (xy 187).cls = "BernoulliWays" := by decide +kernel
    rw [← e]; exact hown
  have C : xCx p s m ([Value.ref 0, .int n, .int x].map (xtv ad)).toArray meth c 187 D cI cL ad (va_A (xtw cI cL ad w) s.heap.size) := ⟨B.exec, B.bytes, B.returns, hml, B.notSynchronized, by rw [← (x_name hz).1]; exact hown, hts, (name_of_methodNamed B.named B.method).1, hz, hK, fun q h => Or.inr h, hSt⟩
  have O : xOK D cI cL ad (va_A (xtw cI cL ad w) s.heap.size) s.heap w s.heap [] 0 := ⟨hP, hD0.self, va_S.rf, hle, had, rfl⟩
  have hat : ∀ u ∈ nAtoms.filter vx_no, u.before ([Value.ref 0, .int n, .int x].map (xtv ad)).toArray s = true :=
    vx_hat (fun u hu => hts u (List.mem_cons_of_mem _ (xtbl_in (n_good u hu) (List.mem_filter.mp hu).2))) n_bad (fun u hu => va_Nw.use (nOdd_tab u hu) (hodd u hu))
  have e3 : xml 187 = 3 := n_tab.1
  have hl3 := lv_entry ([Value.ref 0, .int n, .int x].map (xtv ad)) (n := xml 187) (by rw [e3]; exact Nat.le_refl 3)
  rw [lg_entry_eq]
  generalize (lg_sl ([Value.ref 0, .int n, .int x].map (xtv ad)) ++ List.replicate (xml 187 - (lg_sl ([Value.ref 0, .int n, .int x].map (xtv ad))).length) Slot.unset).toArray = ls at hl3 ⊢
  have hlv : lv_has ls (xml 187) [(0, .ref (ad 0)), (1, .int n), (2, .int x)] := hl3
  refine lv_iload_n B.exec B.bytes (x_dec d_187_0) rfl (lv_at hlv 2 rfl) ?_
  have c5 : 116 < 307 := by decide
  have nm := x_name c5
  obtain ⟨-, -, -, -, t1, t2, t3, t4⟩ := n_tab
  refine x_call (A0 := va_A (xtw cI cL ad w) s.heap.size) (A1 := va_A (xtw cI cL ad w) s.heap.size) (free := va_A (xtw cI cL ad w) s.heap.size) (H0 := s.heap) (mc := 0) (ms := 0) (v := some (.int 0)) (w' := w) (rest := []) (a := [Value.int x].toArray)
    (va_runS (bytes := xb 116) (maxL := xml 116) (ret := xret 116) (n := xna 116) (As := [.int x]) ⟨B.exec, B.bytes, hml, C.2.2.2.2.2.1, hts⟩ (hx.met c5 (by rw [t3]; exact Nat.le_refl 1) D cI cL ad s.heap.size (Nat.zero_add _) (Nat.zero_add _)) ⟨callB_of (xna 116) hts (x_goodIn 187 c5) rfl rfl rfl (x_word C n_site (u := .initialized (xy 116).cls) (by simp [xwords]) rfl) (x_word C n_site (u := .methodLink _ 153 (xy 116)) (by simp [xwords]) rfl) nm.2.2 ⟨by show xfr 116 + 1 ≤ 6; rw [t1]; decide, by show 8 + (xml 116 + 11) + xlo 116 ≤ 120; rw [t2, t3]; decide⟩, x_word C n_site (u := .static (xy 116)) (by simp [xwords]) rfl⟩ ⟨xPre.blind, fun U hU hW => x_pre C O [.int x] U hU hW⟩ rfl (by rw [t4]; rfl) hlv.1 rfl (lv_room (Nat.le_of_ble_eq_true rfl)) (x_dec d_187_1) ⟨by show 0 + 0 ≤ 1; decide, by show 0 + 0 ≤ 6; decide⟩)
    va_S.rf (fun q _ h => h) (fun q h => h) (fun t H1 locs1 ht hB hS1 => ?_)
  obtain ⟨hP1, hK1, hD1, hl1, had1⟩ := hB
  rw [ht] at hP1
  refine lv_if_ne (tgt := 17) B.exec B.bytes (x_dec d_187_4) (by decide) (fun q => absurd rfl q) (fun _ => ?_)
  refine nx_make (A := va_A (xtw cI cL ad w) s.heap.size) (sa := sa) (pc := 7) B.exec B.bytes hl hown2 (hts _ (List.mem_cons_of_mem _ (xtbl_in n_w1.1 n_g1.2.2.1))) (hts _ (List.mem_cons_of_mem _ (xtbl_in n_w1.2.1 n_g1.2.2.2))) hstr hat hU hN hS1 (hlv.1.trans hml.symm) n_d7 n_d10 n_d11 n_d13 (by show 5 < 6; decide) (by show 0 + 82 ≤ 120; decide) (by show 0 + 0 + 1 ≤ 1; decide) (by show 0 + 0 + 6 ≤ 6; decide) (fun q H2 ce hce hcv hcf hs2 hk2 => ?_)
  refine vx_athrow B.exec B.bytes n_d16 ?_
  refine vx_out (E := nse) (ce := ce) (fun y hy => (htab y hy).elim) B.notSynchronized hce hcv hcf (fun t2 ht2 hal => ?_) hS1.2.2 (by show 0 + 0 + 1 ≤ 1; decide) (by show 0 + 0 + 6 ≤ 6; decide)
  refine ⟨(), trivial, ⟨rfl, ?_, hD1⟩, ?_, ?_⟩
  · rw [ht2]
    exact hP1.kept (fun k q hk => hk2 q.1 ((hP1 k q hk).lt))
  · rw [ht2]
    exact Nat.le_trans hS1.1 hs2
  · intro q hq hA
    rw [ht2, hk2 q (Nat.lt_of_lt_of_le hq hS1.1)]
    exact hS1.2.1 q hq hA
theorem wsN_in {u : Cond} (h : u ∈ lw_tbl) (hg : goodWord u = true) : u ∈ wsN := List.mem_cons_of_mem _ (xtbl_in h hg)
theorem wsN_good : GoodIn wsN (xTs 187) := by
  have good : ∀ w ∈ xtbl, (w.onTables && w.keeps) = true ∨ ∃ ty, w = .arrayClass ty := fun w hw => good_of_word (List.mem_filter.mp hw).2
  intro w hw
  rcases List.mem_cons.mp hw with rfl | hw
  · have h : Cond.code (xy 187) (xb 187) (xml 187) (xret 187) ∈ xtbl := xtbl_in (x_code (by decide)) rfl
    exact ⟨List.mem_cons_of_mem _ h, good _ h⟩
  · exact ⟨List.mem_cons_of_mem _ hw, good _ hw⟩
/-- the law's number where the class's throws: 1, and nothing is changed -/
theorem law_num_t {l : Launch} (hl : l.stackTraces = false) (D : va_G) (cI cL : ClassId) (ad : Nat → Nat) (w : xW) (sz : Nat) {n x : Int32} {fs : List Value} (h0 : w[0]? = some (.inr (0, fs))) (hx : xCall 116 [.int x] w (some (.int 0), w)) :
    vx_Met l yN wsN rmN (xPreN D cI cL ad [.ref 0, .int n, .int x, .ref 67] w sz) (va_Qi (fun (r : Int32) (_ : Unit) => r = 1) (fun _ t => nB D cI cL ad (va_A (xtw cI cL ad w) sz) w t) (va_A (xtw cI cL ad w) sz)) (vx_X (fun _ : Unit => False) (fun _ _ _ => True) (va_A (xtw cI cL ad w) sz)) 1 6 (va_A (xtw cI cL ad w) sz) := by
  refine vx_ofWH (cc := method_3_code) (maxL := 5) (ret := some .int) (hh := [(0, 9, 12, 13)]) n_plain.2 rfl ?_
  intro p e s m args below meth c s₁ B hml hv
  obtain ⟨⟨rfl, hsz, hP, hK, hD0, hle, had, hSt⟩, hN⟩ := hv
  subst hsz
  have hts := atoms_spec (ws := wsN) B.pre
  have hown : s.vm.findClass "BernoulliWaysLaw" = some m.cls := findClass_of_methodNamed B.named
  have htb := vx_table (x := yN) B (hts _ List.mem_cons_self)
  have c5 : 187 < 307 := by decide
  have nm := x_name c5
  have hl3 := lv_entry ([Value.ref 0, .int n, .int x, .ref 67].map (xtv ad)) (n := 5) (show 4 ≤ 5 by decide)
  rw [lg_entry_eq]
  generalize (lg_sl ([Value.ref 0, .int n, .int x, .ref 67].map (xtv ad)) ++ List.replicate (5 - (lg_sl ([Value.ref 0, .int n, .int x, .ref 67].map (xtv ad))).length) Slot.unset).toArray = ls at hl3 ⊢
  have hlv : lv_has ls 5 [(0, .ref (ad 0)), (1, .int n), (2, .int x), (3, .ref (ad 67))] := hl3
  have O : xOK D cI cL ad (va_A (xtw cI cL ad w) s.heap.size) s.heap w s.heap [] 0 := ⟨hP, hD0.self, va_S.rf, hle, had, rfl⟩
  have pre : ∀ U : State, U.heap = s.heap → s.WarmedH U.vm → xPreN D cI cL ad [.ref 0, .int n, .int x] w s.heap.size ([Value.ref 0, .int n, .int x].map (xtv ad)).toArray U := by
    intro U hU hW
    refine ⟨⟨rfl, by rw [hU], by rw [hU]; exact hP, va_K.moved hW.alike hK, hD0, hle, had, ?_⟩, hN.to hU hW (fun a _ _ => rfl) (fun q h => h)⟩
    rw [hU]
    exact hSt.to hW (fun a _ _ => rfl) (fun q h => h)
  refine lv_aload_n B.exec B.bytes nd_0 rfl (lv_at hlv 3 rfl) ?_
  refine lv_iconst (v := 0) B.exec B.bytes nd_1 rfl ?_
  refine lv_aload_n B.exec B.bytes nd_2 rfl (lv_at hlv 0 rfl) ?_
  refine lv_iload_n B.exec B.bytes nd_3 rfl (lv_at hlv 1 rfl) ?_
  refine lv_iload_n B.exec B.bytes nd_4 rfl (lv_at hlv 2 rfl) ?_
  have W4 := fun u hu => hts u (wsN_in (n_w4 u hu).1 (n_w4 u hu).2)
  refine vx_calll (A0 := va_A (xtw cI cL ad w) s.heap.size) (A1 := va_A (xtw cI cL ad w) s.heap.size) (H0 := s.heap) (mc := 1) (ms := 6) (rest := [.int 0, .ref (ad 67)]) (a := (Value.ref (ad 0) :: [.int n, .int x]).toArray)
    (vx_runV (C := (xy 187).cls) (b := ad 0) (bytes := xb 187) (maxL := xml 187) (ret := xret 187) (n := xna 187) (As := [.int n, .int x]) ⟨B.exec, B.bytes, hml, hown, hts⟩ (num_throw hl D cI cL ad w s.heap.size hx) ⟨callB_of (xna 187) hts wsN_good rfl rfl rfl (W4 (.initialized (xy 187).cls) (by simp)) (W4 (.methodLink "BernoulliWaysLaw" 7 (xy 187)) (by simp)) nm.2.2 ⟨by show 6 + 1 ≤ 8; decide, by show 8 + (xml 187 + 11) + 120 ≤ 200; rw [n_tab.1]; decide⟩, W4 (.instanceMethod (xy 187)) (by simp), W4 (.selects (xy 187).cls (xy 187) (xy 187)) (by simp)⟩ ⟨xPreN.blind, ?_, pre⟩ rfl (by rw [n_tab.2.2.2.1]; rfl) hlv.1 rfl (lv_room (Nat.le_of_ble_eq_true rfl)) nd_5 ⟨by show 0 + 1 ≤ 1; decide, by show 0 + 6 ≤ 6; decide⟩)
    va_S.rf (fun q _ h => h) (fun q h => h) (fun q _ h => h) (fun E ce q9 u t H1 locs1 ht hal hpx hbx hs1 hk1 hS1 hce hcv hcf => ?_) (fun r u t H1 locs1 ht hal hp => hp.elim)
  · have hr := va_recv hK hP (x_cl _ (x_ownLt _ c5) (by rw [n_tab.2.2.1]; rfl)) (xtw_get (show w[0]? = some (.inr (xown 187, fs)) by rw [n_tab.2.2.1]; exact h0))
    rw [nm.1]
    exact hr
  · obtain ⟨rfl, hP1, hD1⟩ := hbx
    rw [ht] at hP1
    refine vx_catch (own := "BernoulliWaysLaw") (name := nse) hown [] ⟨0, 9, 12, 13⟩ [] htb (fun z hz => nomatch hz) (by decide) (by decide) (hts _ (wsN_in n_w3.2 n_g1.2.1)) (va_Nw.use (nOdd_tab _ List.mem_cons_self) (hN.2.2.1 _ List.mem_cons_self)) hce hcv hcf ?_
    refine lv_astore (lv' := [(4, .ref q9), (0, .ref (ad 0)), (1, .int n), (2, .int x), (3, .ref (ad 67))]) B.exec B.bytes nd_12 hlv (by decide) rfl (fun ls2 hl2 => ?_)
    refine lv_iconst (v := 1) B.exec B.bytes nd_14 rfl ?_
    refine vx_ret ?_
    refine W.iret (v := 1) B.exec B.bytes B.returns (fun t2 ht2 hW2 => ⟨⟨1, (), rfl, rfl, ?_, hD1⟩, hS1.F ht2⟩) hS1.2.2 nd_15 B.notSynchronized
    rw [ht2]
    exact hP1
/-- the law's number where the class's answers -/
theorem law_num_r {l : Launch} (D : va_G) (cI cL : ClassId) (ad : Nat → Nat) (w w1 : xW) (sz : Nat) {n x : Int32} {v : Int64} {fs : List Value} {f : Nat → Int64} (h0 : w[0]? = some (.inr (0, fs))) (hc : xCall 187 [.ref 0, .int n, .int x] w (some (.long v), w1)) (hln : w1.length = w.length) (hsl : xsl w1 = xsl w) (h67 : w1[67]? = some (aL 1 f)) :
    vx_Met l yN wsN rmN (xPreN D cI cL ad [.ref 0, .int n, .int x, .ref 67] w sz) (va_Qi (fun (r : Int32) (_ : Unit) => r = 0) (fun _ t => nB D cI cL ad (va_A (xtw cI cL ad w) sz) (w1.set 67 (aL 1 (vp_updL f 0 v))) t) (va_A (xtw cI cL ad w) sz)) (vx_X (fun _ : Unit => False) (fun _ _ _ => True) (va_A (xtw cI cL ad w) sz)) 1 6 (va_A (xtw cI cL ad w) sz) := by
  refine vx_ofWH (cc := method_3_code) (maxL := 5) (ret := some .int) (hh := [(0, 9, 12, 13)]) n_plain.2 rfl ?_
  intro p e s m args below meth c s₁ B hml hv
  obtain ⟨⟨rfl, hsz, hP, hK, hD0, hle, had, hSt⟩, hN⟩ := hv
  subst hsz
  have hts := atoms_spec (ws := wsN) B.pre
  have hown : s.vm.findClass "BernoulliWaysLaw" = some m.cls := findClass_of_methodNamed B.named
  have c5 : 187 < 307 := by decide
  have nm := x_name c5
  have hl3 := lv_entry ([Value.ref 0, .int n, .int x, .ref 67].map (xtv ad)) (n := 5) (show 4 ≤ 5 by decide)
  rw [lg_entry_eq]
  generalize (lg_sl ([Value.ref 0, .int n, .int x, .ref 67].map (xtv ad)) ++ List.replicate (5 - (lg_sl ([Value.ref 0, .int n, .int x, .ref 67].map (xtv ad))).length) Slot.unset).toArray = ls at hl3 ⊢
  have hlv : lv_has ls 5 [(0, .ref (ad 0)), (1, .int n), (2, .int x), (3, .ref (ad 67))] := hl3
  have pre : ∀ U : State, U.heap = s.heap → s.WarmedH U.vm → xPre D cI cL ad [.ref 0, .int n, .int x] w s.heap.size ([Value.ref 0, .int n, .int x].map (xtv ad)).toArray U := by
    intro U hU hW
    refine ⟨rfl, by rw [hU], by rw [hU]; exact hP, va_K.moved hW.alike hK, hD0, hle, had, ?_⟩
    rw [hU]
    exact hSt.to hW (fun a _ _ => rfl) (fun q h => h)
  refine lv_aload_n B.exec B.bytes nd_0 rfl (lv_at hlv 3 rfl) ?_
  refine lv_iconst (v := 0) B.exec B.bytes nd_1 rfl ?_
  refine lv_aload_n B.exec B.bytes nd_2 rfl (lv_at hlv 0 rfl) ?_
  refine lv_iload_n B.exec B.bytes nd_3 rfl (lv_at hlv 1 rfl) ?_
  refine lv_iload_n B.exec B.bytes nd_4 rfl (lv_at hlv 2 rfl) ?_
  have W4 := fun u hu => hts u (wsN_in (n_w4 u hu).1 (n_w4 u hu).2)
  have rooms : xfr 187 + 1 ≤ 8 ∧ 8 + (xml 187 + 11) + xlo 187 ≤ 200 := by decide +kernel
  refine x_call (A0 := va_A (xtw cI cL ad w) s.heap.size) (A1 := va_A (xtw cI cL ad w) s.heap.size) (free := va_A (xtw cI cL ad w) s.heap.size) (H0 := s.heap) (mc := 0) (ms := 0) (v := some (.long v)) (w' := w1) (rest := [.int 0, .ref (ad 67)]) (a := (Value.ref (ad 0) :: [.int n, .int x]).toArray)
    (va_runV (C := (xy 187).cls) (b := ad 0) (bytes := xb 187) (maxL := xml 187) (ret := xret 187) (n := xna 187) (As := [.int n, .int x]) ⟨B.exec, B.bytes, hml, hown, hts⟩ (hc.met c5 (by rw [n_tab.1]; exact Nat.le_refl 3) D cI cL ad s.heap.size (by rw [hln]; exact Nat.zero_add _) (by rw [hsl]; exact Nat.zero_add _)) ⟨callB_of (xna 187) hts wsN_good rfl rfl rfl (W4 (.initialized (xy 187).cls) (by simp)) (W4 (.methodLink "BernoulliWaysLaw" 7 (xy 187)) (by simp)) nm.2.2 rooms, W4 (.instanceMethod (xy 187)) (by simp), W4 (.selects (xy 187).cls (xy 187) (xy 187)) (by simp)⟩ ⟨xPre.blind, ?_, pre⟩ rfl (by rw [n_tab.2.2.2.1]; rfl) hlv.1 rfl (lv_room (Nat.le_of_ble_eq_true rfl)) nd_5 ⟨by show 0 + 0 ≤ 1; decide, by show 0 + 0 ≤ 6; decide⟩)
    va_S.rf (fun q _ h => h) (fun q h => h) (fun t H1 locs1 ht hB hS1 => ?_)
  · have hr := va_recv hK hP (x_cl _ (x_ownLt _ c5) (by rw [n_tab.2.2.1]; rfl)) (xtw_get (show w[0]? = some (.inr (xown 187, fs)) by rw [n_tab.2.2.1]; exact h0))
    rw [nm.1]
    exact hr
  · obtain ⟨hP1, hK1, hD1, hl1, had1⟩ := hB
    rw [ht] at hP1
    have hD2 : va_D (va_A (xtw cI cL ad w) s.heap.size) (xtw cI cL ad w1) := hD1
    refine va_last (A := va_A (xtw cI cL ad w) s.heap.size) (H0 := s.heap) B.exec B.bytes hK hP1 hD2 hS1 67 1 (xtw_get h67) rfl (show vp_in 0 1 by unfold vp_in; decide) nd_8 (fun H2 locs2 hP2 hD3 hS2 => ?_)
    refine lv_goto (tgt := 16) B.exec B.bytes nd_9 (by decide) ?_
    refine lv_iconst (v := 0) B.exec B.bytes nd_16 rfl ?_
    refine vx_ret ?_
    refine W.widen (k := 1) (n := 6) (by show 0 + 0 ≤ 1; decide) (by show 0 + 0 ≤ 6; decide) ?_
    refine W.iret (v := 0) B.exec B.bytes B.returns (fun t2 ht2 hW2 => ⟨⟨0, (), rfl, rfl, ?_, ?_⟩, hS2.F ht2⟩) hS2.2.2 nd_17 B.notSynchronized
    · rw [ht2, xtw_set]
      exact hP2
    · rw [xtw_set]
      exact hD3
