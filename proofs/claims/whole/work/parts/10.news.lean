/-! NEW CELLS, COPIES, STATICS -/
theorem x_arrI : lw_tbl[221]? = some (.arrayClass .int) := by decide +kernel
theorem x_arrL : lw_tbl[127]? = some (.arrayClass .long) := by decide +kernel
theorem x_vref : ∀ c, c < 15 → (xvs.getD c []).all (fun v => match v with | .ref _ => false | _ => true) = true := by
  have h : (List.range 15).all (fun c => (xvs.getD c []).all (fun v => match v with | .ref _ => false | _ => true)) = true := by decide +kernel
  exact fun c hc => List.all_eq_true.mp h c (List.mem_range.mpr hc)
theorem x_vmap {ci : Nat} (hc : ci < 15) (ad : Nat → Nat) : (xvs.getD ci []).map (xtv ad) = xvs.getD ci [] := by
  have h := x_vref ci hc
  generalize xvs.getD ci [] = L at h ⊢
  induction L with
  | nil => rfl
  | cons v L ih =>
    rw [List.all_cons, Bool.and_eq_true] at h
    rw [List.map_cons, ih h.2]
    congr 1
    cases v <;> first | rfl | cases h.1
theorem x_vdef {ci : Nat} (hc : ci < 15) {j : Nat} (hj : j < xNc ci) : defaultValue (xTy ci j) = vp_V (xvs.getD ci []) j := by
  have hl : j < (xts.getD ci []).length := by rw [x_tlen hc]; exact hj
  rw [← (x_cls hc).2.2.1]
  unfold xTy vp_V
  generalize xts.getD ci [] = L at hl ⊢
  simp [List.getD_eq_getElem?_getD, hl]
section XN
variable {l : Launch} {D : va_G} {cI cL : ClassId} {F : xK} {k pc : Nat} {ll : List (Option Value)} {st : List Value} {w w' : xW} {v : Option Value}
theorem xs_new (hF : xOkF l D cI cL F) {ix : Nat} (hd : decode (xb k) pc = .ok (.new ix, 3)) (h : xnew F k pc ix ll st w = some (v, w')) : xSnd l D cI cL k pc ll st w v w' := by
  unfold xnew at h
  split at h
  · rename_i ci _ _ hs
    split at h
    · cases h
    · rename_i hlt
      have q := hF _ _ _ _ _ _ _ h
      have hm := q.1
      rw [List.length_append, xsl_app] at hm
      simp only [List.length_singleton] at hm
      refine ⟨⟨by omega, by omega⟩, fun {p e s m args below meth c A ad mc ms cells slots N0 S0 H locs ls} C O L a1 a2 a3 a4 => ?_⟩
      have ho := x_ownLt _ C.2.2.2.2.2.2.2.2.1
      have hc := x_ci8 ho hs
      have hv := x_vlen hc
      have hs2 : xsz (.inr (ci, xvs.getD ci [])) = xNc ci := hv
      rw [hs2] at hm
      have hKn := C.2.2.2.2.2.2.2.2.2.1.1 ci _ (x_cl _ hc (x_objS ho hs))
      have hin : ∀ u ∈ u_ws (xcn.getD ci "") (xFc ci) (xNc ci), u ∈ xTs k := fun u hu => List.mem_cons_of_mem _ (xtbl_in ((x_cls hc).1 u hu) (x_good_lays u hu))
      refine W.newcK (C := xcn.getD ci "") (n := xNc ci) C.1 C.2.1 C.2.2.2.2.2.1 (x_word C hs (u := .classLink _ ix _) (by simp [xwords]) rfl) (x_word C hs (u := .instantiable _ _) (by simp [xwords, xNc]) rfl) (x_word C hs (u := .initialized _) (by simp [xwords]) rfl) rfl hd (by show cells + 1 ≤ mc; omega) (by show slots + _ ≤ ms; omega) hKn.2.1 rfl fun H1 kC hkC e1 z1 o1 => ?_
      have hat : va_at D xcl (H.size, xte cI cL ad (.inr (ci, xvs.getD ci []))) H1 := by
        show va_at D xcl (H.size, .inr (ci, (xvs.getD ci []).map (xtv ad))) H1
        rw [x_vmap hc]
        exact ⟨_, x_cl _ hc (x_objS ho hs), (u_born (xTy ci) C.2.2.2.2.2.2.1 hin hKn hkC e1 (x_tyOk hc)).to (fun j hj => x_vdef hc hj)⟩
      obtain ⟨ea, O1⟩ := O.push C.2.2.2.2.2.2.2.2.2.2.1 (by omega) hat z1 o1
      have q2 := q.2 (p := p) (e := e) (below := below) (mc := mc) (ms := ms) (N0 := N0) (S0 := S0) (slots := slots + xNc ci) C O1 L (by rw [List.length_append]; simp; omega) a2 (by rw [xsl_app, hs2]; omega) a4
      rw [List.map_cons, show xtv ad (.ref w.length) = .ref H.size from by rw [← ea]; rfl] at q2
      exact q2
  · cases h
theorem xs_newa (hF : xOkF l D cI cL F) {t : ArrayType} (hd : decode (xb k) pc = .ok (.newarray t, 2)) (h : xnewa F k pc t ll st w = some (v, w')) : xSnd l D cI cL k pc ll st w v w' := by
  unfold xnewa at h
  split at h
  · rename_i n rest
    split at h
    · cases h
    · rename_i hcond
      have hn : ¬ n < 0 := fun z => hcond (Or.inl z)
      have hb : n.toNatClampNeg ≤ 1000000 := Nat.not_lt.mp fun z => hcond (Or.inr (Or.inl z))
      have hlt : w.length + 1 < xP := Nat.not_le.mp fun z => hcond (Or.inr (Or.inr z))
      split at h
      · have q := hF _ _ _ _ _ _ _ h
        have hm := q.1
        rw [List.length_append, xsl_app] at hm
        simp only [List.length_singleton] at hm
        have hs2 : xsz (.inl (.inl (n.toNatClampNeg, fun _ => 0))) = n.toNatClampNeg := rfl
        rw [hs2] at hm
        refine ⟨⟨by omega, by omega⟩, fun {p e s m args below meth c A ad mc ms cells slots N0 S0 H locs ls} C O L a1 a2 a3 a4 => ?_⟩
        have hw1 : (Cond.arrayClass .int).before args s = true := C.2.2.2.2.2.2.1 _ (List.mem_cons_of_mem _ (xtbl_of x_arrI rfl))
        refine va_newaK (atype := .int) (N := n.toNatClampNeg) C.1 C.2.1 hw1 rfl hd rfl hn rfl (by show n.toNatClampNeg * 4 ≤ 536870912; omega) (by show cells + 1 ≤ mc; omega) (by show slots + _ ≤ ms; omega) rfl fun H1 cA e1 z1 o1 hAr hNm => ?_
        have hc1 : s.vm.findClass ("[" ++ FieldType.int.toString) = some cI := (C.2.2.2.2.2.2.2.2.2.1.2 0 _ rfl).2
        have hcc : cA = cI := Option.some.inj (hNm.symm.trans hc1)
        subst hcc
        obtain ⟨ea, O1⟩ := O.push (c' := .inl (.inl (n.toNatClampNeg, fun _ => 0))) C.2.2.2.2.2.2.2.2.2.2.1 hlt e1 z1 o1
        have q2 := q.2 (p := p) (e := e) (below := below) (mc := mc) (ms := ms) (N0 := N0) (S0 := S0) (slots := slots + n.toNatClampNeg) C O1 L (by rw [List.length_append]; simp; omega) a2 (by rw [xsl_app, hs2]; omega) a4
        rw [List.map_cons, show xtv ad (.ref w.length) = .ref H.size from by rw [← ea]; rfl] at q2
        exact q2
      · have q := hF _ _ _ _ _ _ _ h
        have hm := q.1
        rw [List.length_append, xsl_app] at hm
        simp only [List.length_singleton] at hm
        have hs2 : xsz (.inl (.inr (n.toNatClampNeg, fun _ => 0))) = n.toNatClampNeg := rfl
        rw [hs2] at hm
        refine ⟨⟨by omega, by omega⟩, fun {p e s m args below meth c A ad mc ms cells slots N0 S0 H locs ls} C O L a1 a2 a3 a4 => ?_⟩
        have hw1 : (Cond.arrayClass .long).before args s = true := C.2.2.2.2.2.2.1 _ (List.mem_cons_of_mem _ (xtbl_of x_arrL rfl))
        refine va_newaK (atype := .long) (N := n.toNatClampNeg) C.1 C.2.1 hw1 rfl hd rfl hn rfl (by show n.toNatClampNeg * 8 ≤ 536870912; omega) (by show cells + 1 ≤ mc; omega) (by show slots + _ ≤ ms; omega) rfl fun H1 cA e1 z1 o1 hAr hNm => ?_
        have hc1 : s.vm.findClass ("[" ++ FieldType.long.toString) = some cL := (C.2.2.2.2.2.2.2.2.2.1.2 1 _ rfl).2
        have hcc : cA = cL := Option.some.inj (hNm.symm.trans hc1)
        subst hcc
        obtain ⟨ea, O1⟩ := O.push (c' := .inl (.inr (n.toNatClampNeg, fun _ => 0))) C.2.2.2.2.2.2.2.2.2.2.1 hlt e1 z1 o1
        have q2 := q.2 (p := p) (e := e) (below := below) (mc := mc) (ms := ms) (N0 := N0) (S0 := S0) (slots := slots + n.toNatClampNeg) C O1 L (by rw [List.length_append]; simp; omega) a2 (by rw [xsl_app, hs2]; omega) a4
        rw [List.map_cons, show xtv ad (.ref w.length) = .ref H.size from by rw [← ea]; rfl] at q2
        exact q2
      · cases h
  · cases h
theorem xs_gets (hF : xOkF l D cI cL F) {ix : Nat} (hd : decode (xb k) pc = .ok (.getstatic ix, 3)) (h : xgets F k pc ix ll st w = some (v, w')) : xSnd l D cI cL k pc ll st w v w' := by
  unfold xgets at h
  split at h
  · rename_i hs
    have q := hF _ _ _ _ _ _ _ h
    exact ⟨q.1, fun C O L a1 a2 a3 a4 => va_gets (ref := "BernoulliWays") C.1 C.2.1 C.2.2.2.2.2.2.2.2.2.2.2.1 O.2.2.1 C.2.2.2.2.2.1 (x_word C hs (by simp [xwords]) rfl) (fun _ h9 => h9) hd (q.2 C O L a1 a2 a3 a4)⟩
  · rename_i hs
    have q := hF _ _ _ _ _ _ _ h
    exact ⟨q.1, fun C O L a1 a2 a3 a4 => va_getsN (ref := "BernoulliWays") (host := "BernoulliWays") C.1 C.2.1 C.2.2.2.2.2.2.2.2.2.2.2.1 O.2.2.1 C.2.2.2.2.2.1 (va_Nw.use rfl (x_nest C hs (by simp [xwords]) rfl)) (fun _ h9 => h9) hd (q.2 C O L a1 a2 a3 a4)⟩
  · cases h
theorem xs_invI (hF : xOkF l D cI cL F) {ix : Nat} (hk : xown k < 15) (hd : decode (xb k) pc = .ok (.invokespecial ix, 3)) (h : xinvI F k pc ix ll st w = some (v, w')) : xSnd l D cI cL k pc ll st w v w' := by
  unfold xinvI at h
  split at h
  · rename_i z _ hs
    split at h
    · rename_i hlen
      split at h
      · rename_i b rest hdrop
        have hi := x_isInit hk (by omega) hs
        exact xs_I hF hs hi.1 hi.2 hd hlen hdrop h
      · cases h
    · cases h
  · rename_i z _ hs
    split at h
    · rename_i hlen
      split at h
      · rename_i b rest hdrop
        have hi := x_isInit hk (by omega) hs
        exact xs_IN hF hs hi.1 hi.2 hd hlen hdrop h
      · cases h
    · cases h
  · rename_i hs
    split at h
    · rename_i a rest
      split at h
      · rename_i hr
        have q := hF _ _ _ _ _ _ _ h
        refine ⟨q.1, fun {p e s m args below meth c A ad mc ms cells slots N0 S0 H locs ls} C O L a1 a2 a3 a4 => ?_⟩
        refine W.objInit (a := ad a) (rest := rest.map (xtv ad)) C.1 C.2.1 C.2.2.2.2.2.1 (x_word C hs (u := .methodLink _ ix objectInit) (by simp [xwords]) rfl) (x_word C hs (u := .instanceMethod objectInit) (by simp [xwords]) rfl) (x_word C hs (u := .code objectInit ⟨#[0xb1]⟩ 1 none) (by simp [xwords]) rfl) rfl (by rw [C.2.2.2.1]; exact L.1) rfl hd hr.1 (by rw [xtv_cats]; show 2 * 0 + _ + 12 ≤ _; have := hr.2; show _ ≤ xlo k; omega) (q.2 C O L a1 a2 a3 a4)
      · cases h
    · cases h
  · cases h
end XN
