/-! THE PURE MACHINE IS SOUND -/
section XC
variable {l : Launch} {D : va_G} {cI cL : ClassId} {F : xK} {k pc : Nat} {ll : List (Option Value)} {st : List Value} {w w' : xW} {v : Option Value}
theorem xs_invS (hF : xOkF l D cI cL F) {ix : Nat} (hd : decode (xb k) pc = .ok (.invokestatic ix, 3)) (h : xinvS F k pc ix ll st w = some (v, w')) : xSnd l D cI cL k pc ll st w v w' := by
  unfold xinvS at h
  split at h
  · rename_i z _ hs
    split at h
    · rename_i hlen
      exact xs_S hF hs hd hlen h
    · cases h
  · rename_i z _ hs
    split at h
    · rename_i hlen
      exact xs_SN hF hs hd hlen h
    · cases h
  · rename_i hs
    split at h
    · rename_i n dp d sp a rest
      split at h
      · cases h
      · rename_i hcond
        have g1 : ¬ n < 0 := fun z => hcond (Or.inl z)
        have g2 : ¬ dp < 0 := fun z => hcond (Or.inr (Or.inl z))
        have g3 : ¬ sp < 0 := fun z => hcond (Or.inr (Or.inr (Or.inl z)))
        have g4 : 1 ≤ xfr k := Nat.not_lt.mp fun z => hcond (Or.inr (Or.inr (Or.inr (Or.inl z))))
        have g5 : (rest.map fun v => v.category).sum + 18 ≤ xlo k := Nat.not_lt.mp fun z => hcond (Or.inr (Or.inr (Or.inr (Or.inr z))))
        split at h
        · rename_i n0 f n1 g hwa hwd
          split at h
          · rename_i hin
            have q := hF _ _ _ _ _ _ _ h
            have hm : xsl (w.set d (.inl (.inl (n1, va_cpy f g sp.toNatClampNeg dp.toNatClampNeg n.toNatClampNeg)))) = xsl w := xsl_set hwd rfl
            refine ⟨⟨by have := q.1.1; rw [List.length_set] at this; exact this, by have := q.1.2; rw [hm] at this; exact this⟩, fun {p e s m args below meth c A ad mc ms cells slots N0 S0 H locs ls} C O L a1 a2 a3 a4 => ?_⟩
            refine va_copyi (ty := .int) (rest := rest.map (xtv ad)) C.1 C.2.1 (by rw [C.2.2.2.1]; exact L.1.symm) C.2.2.2.2.2.1 (x_word C hs (u := .methodLink _ ix arraycopyName) (by simp [xwords]) rfl) (x_word C hs (u := .native arraycopyName) (by simp [xwords]) rfl) (x_word C hs (u := .static arraycopyName) (by simp [xwords]) rfl) (x_word C hs (u := .initialized "java/lang/System") (by simp [xwords]) rfl) C.2.2.2.2.2.2.2.2.2.1 O.1 O.2.1 O.here a d 0 0 (xtw_get hwa) (xtw_get hwd) rfl rfl rfl g3 g2 g1 hin.1 hin.2 (fun i _ => rfl) g4 ?_ hd (fun H1 locs1 hP hD hS => ?_)
            · rw [xtv_cats]
              show _ + (7 + 11) ≤ xlo k
              omega
            · refine x_sz (by have := hS.1; have := O.2.2.2.2.2; omega) (fun hz => ?_)
              exact q.2 (N0 := N0) (S0 := S0) C (O.store (c' := .inl (.inl (n1, va_cpy f g sp.toNatClampNeg dp.toNatClampNeg n.toNatClampNeg))) hP hD hS hz) L (by rw [List.length_set]; exact a1) a2 (by rw [hm]; exact a3) a4
          · cases h
        · rename_i n0 f n1 g hwa hwd
          split at h
          · rename_i hin
            have q := hF _ _ _ _ _ _ _ h
            have hm : xsl (w.set d (.inl (.inr (n1, va_cpy f g sp.toNatClampNeg dp.toNatClampNeg n.toNatClampNeg)))) = xsl w := xsl_set hwd rfl
            refine ⟨⟨by have := q.1.1; rw [List.length_set] at this; exact this, by have := q.1.2; rw [hm] at this; exact this⟩, fun {p e s m args below meth c A ad mc ms cells slots N0 S0 H locs ls} C O L a1 a2 a3 a4 => ?_⟩
            refine va_copyl (ty := .long) (rest := rest.map (xtv ad)) C.1 C.2.1 (by rw [C.2.2.2.1]; exact L.1.symm) C.2.2.2.2.2.1 (x_word C hs (u := .methodLink _ ix arraycopyName) (by simp [xwords]) rfl) (x_word C hs (u := .native arraycopyName) (by simp [xwords]) rfl) (x_word C hs (u := .static arraycopyName) (by simp [xwords]) rfl) (x_word C hs (u := .initialized "java/lang/System") (by simp [xwords]) rfl) C.2.2.2.2.2.2.2.2.2.1 O.1 O.2.1 O.here a d 1 1 (xtw_get hwa) (xtw_get hwd) rfl rfl rfl g3 g2 g1 hin.1 hin.2 (fun i _ => rfl) g4 ?_ hd (fun H1 locs1 hP hD hS => ?_)
            · rw [xtv_cats]
              show _ + (7 + 11) ≤ xlo k
              omega
            · refine x_sz (by have := hS.1; have := O.2.2.2.2.2; omega) (fun hz => ?_)
              exact q.2 (N0 := N0) (S0 := S0) C (O.store (c' := .inl (.inr (n1, va_cpy f g sp.toNatClampNeg dp.toNatClampNeg n.toNatClampNeg))) hP hD hS hz) L (by rw [List.length_set]; exact a1) a2 (by rw [hm]; exact a3) a4
          · cases h
        · cases h
    · cases h
  · cases h
theorem xs_jump (hF : xOkF l D cI cL F) {off : Int} (h : xjump F k pc off ll st w = some (v, w')) : (pc : Int) + off = (xtgt pc off : Int) ∧ xSnd l D cI cL k (xtgt pc off) ll st w v w' := by
  unfold xjump at h
  split at h
  · rename_i hz
    exact ⟨(Int.toNat_of_nonneg hz).symm, hF _ _ _ _ _ _ _ h⟩
  · cases h
theorem xs_br (hF : xOkF l D cI cL F) {off : Int} {cnd : Prop} [Decidable cnd] (h : xbr F (decide cnd) k pc off ll st w = some (v, w')) : (pc : Int) + off = (xtgt pc off : Int) ∧ (cnd ∧ xSnd l D cI cL k (xtgt pc off) ll st w v w' ∨ ¬ cnd ∧ xSnd l D cI cL k (pc + 3) ll st w v w') := by
  unfold xbr at h
  by_cases hz : 0 ≤ (pc : Int) + off
  · rw [if_pos hz] at h
    refine ⟨(Int.toNat_of_nonneg hz).symm, ?_⟩
    by_cases hc : cnd
    · rw [if_pos (decide_eq_true hc)] at h
      exact Or.inl ⟨hc, hF _ _ _ _ _ _ _ h⟩
    · rw [if_neg (by simpa using hc)] at h
      exact Or.inr ⟨hc, hF _ _ _ _ _ _ _ h⟩
  · rw [if_neg hz] at h
    cases h
theorem x_ins (hF : xOkF l D cI cL F) {i : Instr} {len : Nat} (hk : xown k < 15) (hd : decode (xb k) pc = .ok (i, len)) (h : xins F k pc ll st w i len = some (v, w')) : xSnd l D cI cL k pc ll st w v w' := by
  cases i with
  | iconst n =>
    unfold xins at h
    dsimp only at h
    by_cases hl : len = 1
    · subst hl
      rw [if_pos rfl] at h
      have q := hF _ _ _ _ _ _ _ h
      exact ⟨q.1, fun C O L a1 a2 a3 a4 => lv_iconst C.1 C.2.1 hd rfl (q.2 C O L a1 a2 a3 a4)⟩
    · rw [if_neg hl] at h
      cases h
  | bipush n =>
    unfold xins at h
    dsimp only at h
    by_cases hl : len = 2
    · subst hl
      rw [if_pos rfl] at h
      have q := hF _ _ _ _ _ _ _ h
      exact ⟨q.1, fun C O L a1 a2 a3 a4 => lv_bipush C.1 C.2.1 hd rfl (q.2 C O L a1 a2 a3 a4)⟩
    · rw [if_neg hl] at h
      cases h
  | sipush n =>
    unfold xins at h
    dsimp only at h
    by_cases hl : len = 3
    · subst hl
      rw [if_pos rfl] at h
      have q := hF _ _ _ _ _ _ _ h
      exact ⟨q.1, fun C O L a1 a2 a3 a4 => lv_sipush C.1 C.2.1 hd rfl (q.2 C O L a1 a2 a3 a4)⟩
    · rw [if_neg hl] at h
      cases h
  | lconst n =>
    unfold xins at h
    dsimp only at h
    by_cases hl : len = 1
    · subst hl
      rw [if_pos rfl] at h
      have q := hF _ _ _ _ _ _ _ h
      exact ⟨q.1, fun C O L a1 a2 a3 a4 => lv_lconst C.1 C.2.1 hd rfl (q.2 C O L a1 a2 a3 a4)⟩
    · rw [if_neg hl] at h
      cases h
  | ldc ix =>
    unfold xins at h
    dsimp only at h
    by_cases hl : len = 2
    · subst hl
      rw [if_pos rfl] at h
      split at h
      · rename_i x hs
        have q := hF _ _ _ _ _ _ _ h
        exact ⟨q.1, fun C O L a1 a2 a3 a4 => lv_ldc C.1 C.2.1 C.2.2.2.2.2.1 (x_word C hs (by simp [xwords]) rfl) hd (q.2 C O L a1 a2 a3 a4)⟩
      · cases h
    · rw [if_neg hl] at h
      cases h
  | ldc_w ix =>
    unfold xins at h
    dsimp only at h
    by_cases hl : len = 3
    · subst hl
      rw [if_pos rfl] at h
      split at h
      · rename_i x hs
        have q := hF _ _ _ _ _ _ _ h
        exact ⟨q.1, fun C O L a1 a2 a3 a4 => lv_ldcw C.1 C.2.1 C.2.2.2.2.2.1 (x_word C hs (by simp [xwords]) rfl) hd (q.2 C O L a1 a2 a3 a4)⟩
      · cases h
    · rw [if_neg hl] at h
      cases h
  | ldc2_w ix =>
    unfold xins at h
    dsimp only at h
    by_cases hl : len = 3
    · subst hl
      rw [if_pos rfl] at h
      split at h
      · rename_i x hs
        have q := hF _ _ _ _ _ _ _ h
        exact ⟨q.1, fun C O L a1 a2 a3 a4 => lv_ldc2 C.1 C.2.1 C.2.2.2.2.2.1 (x_word C hs (by simp [xwords]) rfl) hd (q.2 C O L a1 a2 a3 a4)⟩
      · cases h
    · rw [if_neg hl] at h
      cases h
  | iload_n n =>
    unfold xins at h
    dsimp only at h
    by_cases hl : len = 1
    · subst hl
      rw [if_pos rfl] at h
      unfold xild at h
      split at h
      · rename_i x hx
        have q := hF _ _ _ _ _ _ _ h
        exact ⟨q.1, fun C O L a1 a2 a3 a4 => lv_iload_n C.1 C.2.1 hd rfl (L.get hx) (q.2 C O L a1 a2 a3 a4)⟩
      · cases h
    · rw [if_neg hl] at h
      cases h
  | iload n =>
    unfold xins at h
    dsimp only at h
    by_cases hl : len = 2
    · subst hl
      rw [if_pos rfl] at h
      unfold xild at h
      split at h
      · rename_i x hx
        have q := hF _ _ _ _ _ _ _ h
        exact ⟨q.1, fun C O L a1 a2 a3 a4 => lv_iload C.1 C.2.1 hd (L.get hx) (q.2 C O L a1 a2 a3 a4)⟩
      · cases h
    · rw [if_neg hl] at h
      cases h
  | lload_n n =>
    unfold xins at h
    dsimp only at h
    by_cases hl : len = 1
    · subst hl
      rw [if_pos rfl] at h
      unfold xlld at h
      split at h
      · rename_i x hx
        have q := hF _ _ _ _ _ _ _ h
        exact ⟨q.1, fun C O L a1 a2 a3 a4 => lv_lload_n C.1 C.2.1 hd rfl (L.get hx) (q.2 C O L a1 a2 a3 a4)⟩
      · cases h
    · rw [if_neg hl] at h
      cases h
  | lload n =>
    unfold xins at h
    dsimp only at h
    by_cases hl : len = 2
    · subst hl
      rw [if_pos rfl] at h
      unfold xlld at h
      split at h
      · rename_i x hx
        have q := hF _ _ _ _ _ _ _ h
        exact ⟨q.1, fun C O L a1 a2 a3 a4 => lv_lload C.1 C.2.1 hd (L.get hx) (q.2 C O L a1 a2 a3 a4)⟩
      · cases h
    · rw [if_neg hl] at h
      cases h
  | aload_n n =>
    unfold xins at h
    dsimp only at h
    by_cases hl : len = 1
    · subst hl
      rw [if_pos rfl] at h
      unfold xaldr at h
      split at h
      · rename_i x hx
        have q := hF _ _ _ _ _ _ _ h
        exact ⟨q.1, fun C O L a1 a2 a3 a4 => lv_aload_n C.1 C.2.1 hd rfl (L.get hx) (q.2 C O L a1 a2 a3 a4)⟩
      · cases h
    · rw [if_neg hl] at h
      cases h
  | aload n =>
    unfold xins at h
    dsimp only at h
    by_cases hl : len = 2
    · subst hl
      rw [if_pos rfl] at h
      unfold xaldr at h
      split at h
      · rename_i x hx
        have q := hF _ _ _ _ _ _ _ h
        exact ⟨q.1, fun C O L a1 a2 a3 a4 => lv_aload C.1 C.2.1 hd (L.get hx) (q.2 C O L a1 a2 a3 a4)⟩
      · cases h
    · rw [if_neg hl] at h
      cases h
  | istore_n n =>
    unfold xins at h
    dsimp only at h
    by_cases hl : len = 1
    · subst hl
      rw [if_pos rfl] at h
      unfold xis at h
      split at h
      · rename_i x rest
        split at h
        · rename_i hn
          have q := hF _ _ _ _ _ _ _ h
          exact ⟨q.1, fun C O L a1 a2 a3 a4 => lv_istore_n C.1 C.2.1 hd rfl L.has hn rfl (fun ls1 hl1 => q.2 C O (xLoc.st1 (v := .int x) rfl hl1) a1 a2 a3 a4)⟩
        · cases h
      · cases h
    · rw [if_neg hl] at h
      cases h
  | istore n =>
    unfold xins at h
    dsimp only at h
    by_cases hl : len = 2
    · subst hl
      rw [if_pos rfl] at h
      unfold xis at h
      split at h
      · rename_i x rest
        split at h
        · rename_i hn
          have q := hF _ _ _ _ _ _ _ h
          exact ⟨q.1, fun C O L a1 a2 a3 a4 => lv_istore C.1 C.2.1 hd L.has hn rfl (fun ls1 hl1 => q.2 C O (xLoc.st1 (v := .int x) rfl hl1) a1 a2 a3 a4)⟩
        · cases h
      · cases h
    · rw [if_neg hl] at h
      cases h
  | astore_n n =>
    unfold xins at h
    dsimp only at h
    by_cases hl : len = 1
    · subst hl
      rw [if_pos rfl] at h
      unfold xas at h
      split at h
      · rename_i x rest
        split at h
        · rename_i hn
          have q := hF _ _ _ _ _ _ _ h
          exact ⟨q.1, fun C O L a1 a2 a3 a4 => lv_astore_n C.1 C.2.1 hd rfl L.has hn rfl (fun ls1 hl1 => q.2 C O (xLoc.st1 (v := .ref x) rfl hl1) a1 a2 a3 a4)⟩
        · cases h
      · cases h
    · rw [if_neg hl] at h
      cases h
  | astore n =>
    unfold xins at h
    dsimp only at h
    by_cases hl : len = 2
    · subst hl
      rw [if_pos rfl] at h
      unfold xas at h
      split at h
      · rename_i x rest
        split at h
        · rename_i hn
          have q := hF _ _ _ _ _ _ _ h
          exact ⟨q.1, fun C O L a1 a2 a3 a4 => lv_astore C.1 C.2.1 hd L.has hn rfl (fun ls1 hl1 => q.2 C O (xLoc.st1 (v := .ref x) rfl hl1) a1 a2 a3 a4)⟩
        · cases h
      · cases h
    · rw [if_neg hl] at h
      cases h
  | lstore_n n =>
    unfold xins at h
    dsimp only at h
    by_cases hl : len = 1
    · subst hl
      rw [if_pos rfl] at h
      unfold xls at h
      split at h
      · rename_i x rest
        split at h
        · rename_i hn
          have q := hF _ _ _ _ _ _ _ h
          exact ⟨q.1, fun C O L a1 a2 a3 a4 => lv_lstore_n C.1 C.2.1 hd rfl L.has hn rfl (fun ls1 hl1 => q.2 C O (xLoc.st2 (v := .long x) rfl hl1) a1 a2 a3 a4)⟩
        · cases h
      · cases h
    · rw [if_neg hl] at h
      cases h
  | lstore n =>
    unfold xins at h
    dsimp only at h
    by_cases hl : len = 2
    · subst hl
      rw [if_pos rfl] at h
      unfold xls at h
      split at h
      · rename_i x rest
        split at h
        · rename_i hn
          have q := hF _ _ _ _ _ _ _ h
          exact ⟨q.1, fun C O L a1 a2 a3 a4 => lv_lstore C.1 C.2.1 hd L.has hn rfl (fun ls1 hl1 => q.2 C O (xLoc.st2 (v := .long x) rfl hl1) a1 a2 a3 a4)⟩
        · cases h
      · cases h
    · rw [if_neg hl] at h
      cases h
  | iinc n d =>
    unfold xins at h
    dsimp only at h
    by_cases hl : len = 3
    · subst hl
      rw [if_pos rfl] at h
      unfold xinc at h
      split at h
      · rename_i x hx
        split at h
        · rename_i hn
          have q := hF _ _ _ _ _ _ _ h
          refine ⟨q.1, fun {p e s m args below meth c A ad mc ms cells slots N0 S0 H locs ls} C O L a1 a2 a3 a4 => ?_⟩
          obtain ⟨j, hj⟩ := List.getElem?_of_mem (xasc_mem (ad := ad) hx)
          exact lv_iinc C.1 C.2.1 hd L.has hj rfl hn rfl (fun ls1 hl1 => q.2 C O (xLoc.st1 (v := .int (x + Int32.ofInt d)) rfl hl1) a1 a2 a3 a4)
        · cases h
      · cases h
    · rw [if_neg hl] at h
      cases h
  | iadd =>
    unfold xins at h
    dsimp only at h
    by_cases hl : len = 1
    · subst hl
      rw [if_pos rfl] at h
      unfold xi2 at h
      split at h
      · rename_i y x rest
        have q := hF _ _ _ _ _ _ _ h
        exact ⟨q.1, fun C O L a1 a2 a3 a4 => lv_iadd C.1 C.2.1 hd (q.2 C O L a1 a2 a3 a4)⟩
      · cases h
    · rw [if_neg hl] at h
      cases h
  | isub =>
    unfold xins at h
    dsimp only at h
    by_cases hl : len = 1
    · subst hl
      rw [if_pos rfl] at h
      unfold xi2 at h
      split at h
      · rename_i y x rest
        have q := hF _ _ _ _ _ _ _ h
        exact ⟨q.1, fun C O L a1 a2 a3 a4 => lv_isub C.1 C.2.1 hd (q.2 C O L a1 a2 a3 a4)⟩
      · cases h
    · rw [if_neg hl] at h
      cases h
  | imul =>
    unfold xins at h
    dsimp only at h
    by_cases hl : len = 1
    · subst hl
      rw [if_pos rfl] at h
      unfold xi2 at h
      split at h
      · rename_i y x rest
        have q := hF _ _ _ _ _ _ _ h
        exact ⟨q.1, fun C O L a1 a2 a3 a4 => lv_imul C.1 C.2.1 hd (q.2 C O L a1 a2 a3 a4)⟩
      · cases h
    · rw [if_neg hl] at h
      cases h
  | iand =>
    unfold xins at h
    dsimp only at h
    by_cases hl : len = 1
    · subst hl
      rw [if_pos rfl] at h
      unfold xi2 at h
      split at h
      · rename_i y x rest
        have q := hF _ _ _ _ _ _ _ h
        exact ⟨q.1, fun C O L a1 a2 a3 a4 => lv_iand C.1 C.2.1 hd (q.2 C O L a1 a2 a3 a4)⟩
      · cases h
    · rw [if_neg hl] at h
      cases h
  | ior =>
    unfold xins at h
    dsimp only at h
    by_cases hl : len = 1
    · subst hl
      rw [if_pos rfl] at h
      unfold xi2 at h
      split at h
      · rename_i y x rest
        have q := hF _ _ _ _ _ _ _ h
        exact ⟨q.1, fun C O L a1 a2 a3 a4 => lv_ior C.1 C.2.1 hd (q.2 C O L a1 a2 a3 a4)⟩
      · cases h
    · rw [if_neg hl] at h
      cases h
  | ishr =>
    unfold xins at h
    dsimp only at h
    by_cases hl : len = 1
    · subst hl
      rw [if_pos rfl] at h
      unfold xi2 at h
      split at h
      · rename_i y x rest
        have q := hF _ _ _ _ _ _ _ h
        exact ⟨q.1, fun C O L a1 a2 a3 a4 => lv_ishr C.1 C.2.1 hd (q.2 C O L a1 a2 a3 a4)⟩
      · cases h
    · rw [if_neg hl] at h
      cases h
  | ladd =>
    unfold xins at h
    dsimp only at h
    by_cases hl : len = 1
    · subst hl
      rw [if_pos rfl] at h
      unfold xl2 at h
      split at h
      · rename_i y x rest
        have q := hF _ _ _ _ _ _ _ h
        exact ⟨q.1, fun C O L a1 a2 a3 a4 => lv_ladd C.1 C.2.1 hd (q.2 C O L a1 a2 a3 a4)⟩
      · cases h
    · rw [if_neg hl] at h
      cases h
  | lsub =>
    unfold xins at h
    dsimp only at h
    by_cases hl : len = 1
    · subst hl
      rw [if_pos rfl] at h
      unfold xl2 at h
      split at h
      · rename_i y x rest
        have q := hF _ _ _ _ _ _ _ h
        exact ⟨q.1, fun C O L a1 a2 a3 a4 => lv_lsub C.1 C.2.1 hd (q.2 C O L a1 a2 a3 a4)⟩
      · cases h
    · rw [if_neg hl] at h
      cases h
  | lmul =>
    unfold xins at h
    dsimp only at h
    by_cases hl : len = 1
    · subst hl
      rw [if_pos rfl] at h
      unfold xl2 at h
      split at h
      · rename_i y x rest
        have q := hF _ _ _ _ _ _ _ h
        exact ⟨q.1, fun C O L a1 a2 a3 a4 => lv_lmul C.1 C.2.1 hd (q.2 C O L a1 a2 a3 a4)⟩
      · cases h
    · rw [if_neg hl] at h
      cases h
  | land =>
    unfold xins at h
    dsimp only at h
    by_cases hl : len = 1
    · subst hl
      rw [if_pos rfl] at h
      unfold xl2 at h
      split at h
      · rename_i y x rest
        have q := hF _ _ _ _ _ _ _ h
        exact ⟨q.1, fun C O L a1 a2 a3 a4 => lv_land C.1 C.2.1 hd (q.2 C O L a1 a2 a3 a4)⟩
      · cases h
    · rw [if_neg hl] at h
      cases h
  | lor =>
    unfold xins at h
    dsimp only at h
    by_cases hl : len = 1
    · subst hl
      rw [if_pos rfl] at h
      unfold xl2 at h
      split at h
      · rename_i y x rest
        have q := hF _ _ _ _ _ _ _ h
        exact ⟨q.1, fun C O L a1 a2 a3 a4 => lv_lor C.1 C.2.1 hd (q.2 C O L a1 a2 a3 a4)⟩
      · cases h
    · rw [if_neg hl] at h
      cases h
  | lxor =>
    unfold xins at h
    dsimp only at h
    by_cases hl : len = 1
    · subst hl
      rw [if_pos rfl] at h
      unfold xl2 at h
      split at h
      · rename_i y x rest
        have q := hF _ _ _ _ _ _ _ h
        exact ⟨q.1, fun C O L a1 a2 a3 a4 => lv_lxor C.1 C.2.1 hd (q.2 C O L a1 a2 a3 a4)⟩
      · cases h
    · rw [if_neg hl] at h
      cases h
  | idiv =>
    unfold xins at h
    dsimp only at h
    by_cases hl : len = 1
    · subst hl
      rw [if_pos rfl] at h
      unfold xid at h
      split at h
      · rename_i y x rest
        split at h
        · cases h
        · rename_i hy
          have q := hF _ _ _ _ _ _ _ h
          exact ⟨q.1, fun C O L a1 a2 a3 a4 => lv_idiv C.1 C.2.1 hd hy (q.2 C O L a1 a2 a3 a4)⟩
      · cases h
    · rw [if_neg hl] at h
      cases h
  | irem =>
    unfold xins at h
    dsimp only at h
    by_cases hl : len = 1
    · subst hl
      rw [if_pos rfl] at h
      unfold xid at h
      split at h
      · rename_i y x rest
        split at h
        · cases h
        · rename_i hy
          have q := hF _ _ _ _ _ _ _ h
          exact ⟨q.1, fun C O L a1 a2 a3 a4 => lv_irem C.1 C.2.1 hd hy (q.2 C O L a1 a2 a3 a4)⟩
      · cases h
    · rw [if_neg hl] at h
      cases h
  | ldiv =>
    unfold xins at h
    dsimp only at h
    by_cases hl : len = 1
    · subst hl
      rw [if_pos rfl] at h
      unfold xld at h
      split at h
      · rename_i y x rest
        split at h
        · cases h
        · rename_i hy
          have q := hF _ _ _ _ _ _ _ h
          exact ⟨q.1, fun C O L a1 a2 a3 a4 => lv_ldiv C.1 C.2.1 hd hy (q.2 C O L a1 a2 a3 a4)⟩
      · cases h
    · rw [if_neg hl] at h
      cases h
  | lrem =>
    unfold xins at h
    dsimp only at h
    by_cases hl : len = 1
    · subst hl
      rw [if_pos rfl] at h
      unfold xld at h
      split at h
      · rename_i y x rest
        split at h
        · cases h
        · rename_i hy
          have q := hF _ _ _ _ _ _ _ h
          exact ⟨q.1, fun C O L a1 a2 a3 a4 => lv_lrem C.1 C.2.1 hd hy (q.2 C O L a1 a2 a3 a4)⟩
      · cases h
    · rw [if_neg hl] at h
      cases h
  | lshl =>
    unfold xins at h
    dsimp only at h
    by_cases hl : len = 1
    · subst hl
      rw [if_pos rfl] at h
      unfold xlsh at h
      split at h
      · rename_i y x rest
        have q := hF _ _ _ _ _ _ _ h
        exact ⟨q.1, fun C O L a1 a2 a3 a4 => lv_lshl C.1 C.2.1 hd rfl (q.2 C O L a1 a2 a3 a4)⟩
      · cases h
    · rw [if_neg hl] at h
      cases h
  | lshr =>
    unfold xins at h
    dsimp only at h
    by_cases hl : len = 1
    · subst hl
      rw [if_pos rfl] at h
      unfold xlsh at h
      split at h
      · rename_i y x rest
        have q := hF _ _ _ _ _ _ _ h
        exact ⟨q.1, fun C O L a1 a2 a3 a4 => lv_lshr C.1 C.2.1 hd rfl (q.2 C O L a1 a2 a3 a4)⟩
      · cases h
    · rw [if_neg hl] at h
      cases h
  | ineg =>
    unfold xins at h
    dsimp only at h
    by_cases hl : len = 1
    · subst hl
      rw [if_pos rfl] at h
      split at h
      · rename_i x rest
        have q := hF _ _ _ _ _ _ _ h
        exact ⟨q.1, fun C O L a1 a2 a3 a4 => lv_ineg C.1 C.2.1 hd (q.2 C O L a1 a2 a3 a4)⟩
      · cases h
    · rw [if_neg hl] at h
      cases h
  | lneg =>
    unfold xins at h
    dsimp only at h
    by_cases hl : len = 1
    · subst hl
      rw [if_pos rfl] at h
      split at h
      · rename_i x rest
        have q := hF _ _ _ _ _ _ _ h
        exact ⟨q.1, fun C O L a1 a2 a3 a4 => lv_lneg C.1 C.2.1 hd (q.2 C O L a1 a2 a3 a4)⟩
      · cases h
    · rw [if_neg hl] at h
      cases h
  | i2l =>
    unfold xins at h
    dsimp only at h
    by_cases hl : len = 1
    · subst hl
      rw [if_pos rfl] at h
      split at h
      · rename_i x rest
        have q := hF _ _ _ _ _ _ _ h
        exact ⟨q.1, fun C O L a1 a2 a3 a4 => lv_i2l C.1 C.2.1 hd rfl (q.2 C O L a1 a2 a3 a4)⟩
      · cases h
    · rw [if_neg hl] at h
      cases h
  | l2i =>
    unfold xins at h
    dsimp only at h
    by_cases hl : len = 1
    · subst hl
      rw [if_pos rfl] at h
      split at h
      · rename_i x rest
        have q := hF _ _ _ _ _ _ _ h
        exact ⟨q.1, fun C O L a1 a2 a3 a4 => lv_l2i C.1 C.2.1 hd rfl (q.2 C O L a1 a2 a3 a4)⟩
      · cases h
    · rw [if_neg hl] at h
      cases h
  | lcmp =>
    unfold xins at h
    dsimp only at h
    by_cases hl : len = 1
    · subst hl
      rw [if_pos rfl] at h
      split at h
      · rename_i y x rest
        have q := hF _ _ _ _ _ _ _ h
        exact ⟨q.1, fun C O L a1 a2 a3 a4 => W.lcmp C.1 C.2.1 hd (q.2 C O L a1 a2 a3 a4)⟩
      · cases h
    · rw [if_neg hl] at h
      cases h
  | ifCond cn off =>
    unfold xins at h
    dsimp only at h
    by_cases hl : len = 3
    · subst hl
      rw [if_pos rfl] at h
      split at h
      · rename_i x rest
        cases cn with
        | eq =>
          obtain ⟨ht, ⟨hc, q⟩ | ⟨hc, q⟩⟩ := xs_br hF h
          · exact ⟨q.1, fun C O L a1 a2 a3 a4 => lv_if_eq C.1 C.2.1 hd ht (fun _ => q.2 C O L a1 a2 a3 a4) (fun z => absurd hc z)⟩
          · exact ⟨q.1, fun C O L a1 a2 a3 a4 => lv_if_eq C.1 C.2.1 hd ht (fun z => absurd z hc) (fun _ => q.2 C O L a1 a2 a3 a4)⟩
        | ne =>
          obtain ⟨ht, ⟨hc, q⟩ | ⟨hc, q⟩⟩ := xs_br hF h
          · exact ⟨q.1, fun C O L a1 a2 a3 a4 => lv_if_ne C.1 C.2.1 hd ht (fun _ => q.2 C O L a1 a2 a3 a4) (fun z => absurd z hc)⟩
          · exact ⟨q.1, fun C O L a1 a2 a3 a4 => lv_if_ne C.1 C.2.1 hd ht (fun z => absurd z hc) (fun _ => q.2 C O L a1 a2 a3 a4)⟩
        | lt =>
          obtain ⟨ht, ⟨hc, q⟩ | ⟨hc, q⟩⟩ := xs_br hF h
          · exact ⟨q.1, fun C O L a1 a2 a3 a4 => lv_if_lt C.1 C.2.1 hd ht (fun _ => q.2 C O L a1 a2 a3 a4) (fun z => absurd hc z)⟩
          · exact ⟨q.1, fun C O L a1 a2 a3 a4 => lv_if_lt C.1 C.2.1 hd ht (fun z => absurd z hc) (fun _ => q.2 C O L a1 a2 a3 a4)⟩
        | ge =>
          obtain ⟨ht, ⟨hc, q⟩ | ⟨hc, q⟩⟩ := xs_br hF h
          · exact ⟨q.1, fun C O L a1 a2 a3 a4 => lv_if_ge C.1 C.2.1 hd ht (fun _ => q.2 C O L a1 a2 a3 a4) (fun z => absurd hc z)⟩
          · exact ⟨q.1, fun C O L a1 a2 a3 a4 => lv_if_ge C.1 C.2.1 hd ht (fun z => absurd z hc) (fun _ => q.2 C O L a1 a2 a3 a4)⟩
        | gt =>
          obtain ⟨ht, ⟨hc, q⟩ | ⟨hc, q⟩⟩ := xs_br hF h
          · exact ⟨q.1, fun C O L a1 a2 a3 a4 => lv_if_gt C.1 C.2.1 hd ht (fun _ => q.2 C O L a1 a2 a3 a4) (fun z => absurd hc z)⟩
          · exact ⟨q.1, fun C O L a1 a2 a3 a4 => lv_if_gt C.1 C.2.1 hd ht (fun z => absurd z hc) (fun _ => q.2 C O L a1 a2 a3 a4)⟩
        | le =>
          obtain ⟨ht, ⟨hc, q⟩ | ⟨hc, q⟩⟩ := xs_br hF h
          · exact ⟨q.1, fun C O L a1 a2 a3 a4 => lv_if_le C.1 C.2.1 hd ht (fun _ => q.2 C O L a1 a2 a3 a4) (fun z => absurd hc z)⟩
          · exact ⟨q.1, fun C O L a1 a2 a3 a4 => lv_if_le C.1 C.2.1 hd ht (fun z => absurd z hc) (fun _ => q.2 C O L a1 a2 a3 a4)⟩
      · cases h
    · rw [if_neg hl] at h
      cases h
  | if_icmp cn off =>
    unfold xins at h
    dsimp only at h
    by_cases hl : len = 3
    · subst hl
      rw [if_pos rfl] at h
      split at h
      · rename_i y x rest
        cases cn with
        | eq =>
          obtain ⟨ht, ⟨hc, q⟩ | ⟨hc, q⟩⟩ := xs_br hF h
          · exact ⟨q.1, fun C O L a1 a2 a3 a4 => lv_icmp_eq C.1 C.2.1 hd ht (fun _ => q.2 C O L a1 a2 a3 a4) (fun z => absurd hc z)⟩
          · exact ⟨q.1, fun C O L a1 a2 a3 a4 => lv_icmp_eq C.1 C.2.1 hd ht (fun z => absurd z hc) (fun _ => q.2 C O L a1 a2 a3 a4)⟩
        | ne =>
          obtain ⟨ht, ⟨hc, q⟩ | ⟨hc, q⟩⟩ := xs_br hF h
          · exact ⟨q.1, fun C O L a1 a2 a3 a4 => lv_icmp_ne C.1 C.2.1 hd ht (fun _ => q.2 C O L a1 a2 a3 a4) (fun z => absurd z hc)⟩
          · exact ⟨q.1, fun C O L a1 a2 a3 a4 => lv_icmp_ne C.1 C.2.1 hd ht (fun z => absurd z hc) (fun _ => q.2 C O L a1 a2 a3 a4)⟩
        | lt =>
          obtain ⟨ht, ⟨hc, q⟩ | ⟨hc, q⟩⟩ := xs_br hF h
          · exact ⟨q.1, fun C O L a1 a2 a3 a4 => lv_icmp_lt C.1 C.2.1 hd ht (fun _ => q.2 C O L a1 a2 a3 a4) (fun z => absurd hc z)⟩
          · exact ⟨q.1, fun C O L a1 a2 a3 a4 => lv_icmp_lt C.1 C.2.1 hd ht (fun z => absurd z hc) (fun _ => q.2 C O L a1 a2 a3 a4)⟩
        | ge =>
          obtain ⟨ht, ⟨hc, q⟩ | ⟨hc, q⟩⟩ := xs_br hF h
          · exact ⟨q.1, fun C O L a1 a2 a3 a4 => lv_icmp_ge C.1 C.2.1 hd ht (fun _ => q.2 C O L a1 a2 a3 a4) (fun z => absurd hc z)⟩
          · exact ⟨q.1, fun C O L a1 a2 a3 a4 => lv_icmp_ge C.1 C.2.1 hd ht (fun z => absurd z hc) (fun _ => q.2 C O L a1 a2 a3 a4)⟩
        | gt =>
          obtain ⟨ht, ⟨hc, q⟩ | ⟨hc, q⟩⟩ := xs_br hF h
          · exact ⟨q.1, fun C O L a1 a2 a3 a4 => lv_icmp_gt C.1 C.2.1 hd ht (fun _ => q.2 C O L a1 a2 a3 a4) (fun z => absurd hc z)⟩
          · exact ⟨q.1, fun C O L a1 a2 a3 a4 => lv_icmp_gt C.1 C.2.1 hd ht (fun z => absurd z hc) (fun _ => q.2 C O L a1 a2 a3 a4)⟩
        | le =>
          obtain ⟨ht, ⟨hc, q⟩ | ⟨hc, q⟩⟩ := xs_br hF h
          · exact ⟨q.1, fun C O L a1 a2 a3 a4 => lv_icmp_le C.1 C.2.1 hd ht (fun _ => q.2 C O L a1 a2 a3 a4) (fun z => absurd hc z)⟩
          · exact ⟨q.1, fun C O L a1 a2 a3 a4 => lv_icmp_le C.1 C.2.1 hd ht (fun z => absurd z hc) (fun _ => q.2 C O L a1 a2 a3 a4)⟩
      · cases h
    · rw [if_neg hl] at h
      cases h
  | goto off =>
    unfold xins at h
    dsimp only at h
    by_cases hl : len = 3
    · subst hl
      rw [if_pos rfl] at h
      obtain ⟨ht, q⟩ := xs_jump hF h
      exact ⟨q.1, fun C O L a1 a2 a3 a4 => lv_goto C.1 C.2.1 hd ht (q.2 C O L a1 a2 a3 a4)⟩
    · rw [if_neg hl] at h
      cases h
  | tableswitch d lo hi offs =>
    unfold xins at h
    dsimp only at h
    split at h
    · rename_i x rest
      split at h
      · rename_i hc
        obtain ⟨ht, q⟩ := xs_jump hF h
        exact ⟨q.1, fun C O L a1 a2 a3 a4 => lv_tableOut C.1 C.2.1 hd hc ht (q.2 C O L a1 a2 a3 a4)⟩
      · rename_i hc
        split at h
        · rename_i off ho
          obtain ⟨ht, q⟩ := xs_jump hF h
          exact ⟨q.1, fun C O L a1 a2 a3 a4 => lv_tableIn C.1 C.2.1 hd (fun z => hc (Or.inl z)) (fun z => hc (Or.inr z)) ho ht (q.2 C O L a1 a2 a3 a4)⟩
        · cases h
    · cases h
  | dup =>
    unfold xins at h
    dsimp only at h
    by_cases hl : len = 1
    · subst hl
      rw [if_pos rfl] at h
      split at h
      · rename_i x rest
        split at h
        · rename_i hc
          have q := hF _ _ _ _ _ _ _ h
          exact ⟨q.1, fun C O L a1 a2 a3 a4 => lv_dup C.1 C.2.1 hd ((xtv_cat x).trans hc) (q.2 C O L a1 a2 a3 a4)⟩
        · cases h
      · cases h
    · rw [if_neg hl] at h
      cases h
  | dup2 =>
    unfold xins at h
    dsimp only at h
    by_cases hl : len = 1
    · subst hl
      rw [if_pos rfl] at h
      split at h
      · rename_i x y rest
        split at h
        · rename_i hc
          have q := hF _ _ _ _ _ _ _ h
          exact ⟨q.1, fun C O L a1 a2 a3 a4 => lv_dup2_11 C.1 C.2.1 hd ((xtv_cat x).trans hc.1) ((xtv_cat y).trans hc.2) (q.2 C O L a1 a2 a3 a4)⟩
        · cases h
      · cases h
    · rw [if_neg hl] at h
      cases h
  | pop =>
    unfold xins at h
    dsimp only at h
    by_cases hl : len = 1
    · subst hl
      rw [if_pos rfl] at h
      split at h
      · rename_i x rest
        split at h
        · rename_i hc
          have q := hF _ _ _ _ _ _ _ h
          exact ⟨q.1, fun C O L a1 a2 a3 a4 => lv_pop C.1 C.2.1 hd ((xtv_cat x).trans hc) (q.2 C O L a1 a2 a3 a4)⟩
        · cases h
      · cases h
    · rw [if_neg hl] at h
      cases h
  | getfield ix =>
    unfold xins at h
    dsimp only at h
    by_cases hl : len = 3
    · subst hl
      rw [if_pos rfl] at h
      exact xs_getf hF hd h
    · rw [if_neg hl] at h
      cases h
  | putfield ix =>
    unfold xins at h
    dsimp only at h
    by_cases hl : len = 3
    · subst hl
      rw [if_pos rfl] at h
      exact xs_putf hF hd h
    · rw [if_neg hl] at h
      cases h
  | getstatic ix =>
    unfold xins at h
    dsimp only at h
    by_cases hl : len = 3
    · subst hl
      rw [if_pos rfl] at h
      exact xs_gets hF hd h
    · rw [if_neg hl] at h
      cases h
  | iaload =>
    unfold xins at h
    dsimp only at h
    by_cases hl : len = 1
    · subst hl
      rw [if_pos rfl] at h
      exact xs_ald hF hd h
    · rw [if_neg hl] at h
      cases h
  | laload =>
    unfold xins at h
    dsimp only at h
    by_cases hl : len = 1
    · subst hl
      rw [if_pos rfl] at h
      exact xs_lald hF hd h
    · rw [if_neg hl] at h
      cases h
  | iastore =>
    unfold xins at h
    dsimp only at h
    by_cases hl : len = 1
    · subst hl
      rw [if_pos rfl] at h
      exact xs_iast hF hd h
    · rw [if_neg hl] at h
      cases h
  | lastore =>
    unfold xins at h
    dsimp only at h
    by_cases hl : len = 1
    · subst hl
      rw [if_pos rfl] at h
      exact xs_last hF hd h
    · rw [if_neg hl] at h
      cases h
  | arraylength =>
    unfold xins at h
    dsimp only at h
    by_cases hl : len = 1
    · subst hl
      rw [if_pos rfl] at h
      exact xs_alen hF hd h
    · rw [if_neg hl] at h
      cases h
  | newarray t =>
    unfold xins at h
    dsimp only at h
    by_cases hl : len = 2
    · subst hl
      rw [if_pos rfl] at h
      exact xs_newa hF hd h
    · rw [if_neg hl] at h
      cases h
  | new ix =>
    unfold xins at h
    dsimp only at h
    by_cases hl : len = 3
    · subst hl
      rw [if_pos rfl] at h
      exact xs_new hF hd h
    · rw [if_neg hl] at h
      cases h
  | invokevirtual ix =>
    unfold xins at h
    dsimp only at h
    by_cases hl : len = 3
    · subst hl
      rw [if_pos rfl] at h
      exact xs_invV hF hd h
    · rw [if_neg hl] at h
      cases h
  | invokestatic ix =>
    unfold xins at h
    dsimp only at h
    by_cases hl : len = 3
    · subst hl
      rw [if_pos rfl] at h
      exact xs_invS hF hd h
    · rw [if_neg hl] at h
      cases h
  | invokespecial ix =>
    unfold xins at h
    dsimp only at h
    by_cases hl : len = 3
    · subst hl
      rw [if_pos rfl] at h
      exact xs_invI hF hk hd h
    · rw [if_neg hl] at h
      cases h
  | ireturn =>
    unfold xins at h
    dsimp only at h
    by_cases hl : len = 1
    · subst hl
      rw [if_pos rfl] at h
      split at h
      · rename_i x
        split at h
        · rename_i hr
          cases h
          refine ⟨⟨Nat.le_refl _, Nat.le_refl _⟩, fun {p e s m args below meth c A ad mc ms cells slots N0 S0 H locs ls} C O L a1 a2 a3 a4 => ?_⟩
          have e1 : mc = cells := by omega
          have e2 : ms = slots := by omega
          subst e1
          subst e2
          have hn : ∃ ty, xret k = some ty ∧ narrow ty (.int x) = .int x := by
            rcases hr with hr | ⟨hr, hx⟩
            · exact ⟨_, hr, rfl⟩
            · exact ⟨_, hr, by rcases hx with rfl | rfl <;> rfl⟩
          obtain ⟨ty, hr, hn⟩ := hn
          exact W.zret C.1 C.2.1 (C.2.2.1.trans hr) hn (fun t ht hW => ⟨rfl, ⟨by rw [ht]; exact O.1, va_K.moved hW.alike C.2.2.2.2.2.2.2.2.2.1, O.2.1, O.2.2.2.1, by rw [ht]; exact O.2.2.2.2.1⟩, O.2.2.1.F ht⟩) O.2.2.1.2.2 hd C.2.2.2.2.1
        · cases h
      · cases h
    · rw [if_neg hl] at h
      cases h
  | lreturn =>
    unfold xins at h
    dsimp only at h
    by_cases hl : len = 1
    · subst hl
      rw [if_pos rfl] at h
      split at h
      · rename_i x
        split at h
        · rename_i hr
          cases h
          refine ⟨⟨Nat.le_refl _, Nat.le_refl _⟩, fun {p e s m args below meth c A ad mc ms cells slots N0 S0 H locs ls} C O L a1 a2 a3 a4 => ?_⟩
          have e1 : mc = cells := by omega
          have e2 : ms = slots := by omega
          subst e1
          subst e2
          exact W.lret C.1 C.2.1 (C.2.2.1.trans hr) (fun t ht hW => ⟨rfl, ⟨by rw [ht]; exact O.1, va_K.moved hW.alike C.2.2.2.2.2.2.2.2.2.1, O.2.1, O.2.2.2.1, by rw [ht]; exact O.2.2.2.2.1⟩, O.2.2.1.F ht⟩) O.2.2.1.2.2 hd C.2.2.2.2.1
        · cases h
      · cases h
    · rw [if_neg hl] at h
      cases h
  | return_ =>
    unfold xins at h
    dsimp only at h
    by_cases hl : len = 1
    · subst hl
      rw [if_pos rfl] at h
      split at h
      · skip
        split at h
        · rename_i hr
          cases h
          refine ⟨⟨Nat.le_refl _, Nat.le_refl _⟩, fun {p e s m args below meth c A ad mc ms cells slots N0 S0 H locs ls} C O L a1 a2 a3 a4 => ?_⟩
          have e1 : mc = cells := by omega
          have e2 : ms = slots := by omega
          subst e1
          subst e2
          exact W.vret C.1 C.2.1 (C.2.2.1.trans hr) (fun t ht hW => ⟨rfl, ⟨by rw [ht]; exact O.1, va_K.moved hW.alike C.2.2.2.2.2.2.2.2.2.1, O.2.1, O.2.2.2.1, by rw [ht]; exact O.2.2.2.2.1⟩, O.2.2.1.F ht⟩) O.2.2.1.2.2 hd C.2.2.2.2.1
        · cases h
      · cases h
    · rw [if_neg hl] at h
      cases h
  | _ =>
    unfold xins at h
    cases h
end XC
theorem x_ownAll (k : Nat) : xown k < 15 := by
  by_cases hk : k < 307
  · exact x_ownLt k hk
  · unfold xown xmi
    rw [List.getD_eq_getElem?_getD, List.getElem?_eq_none (by rw [x_mlen]; omega)]
    show 0 < 15
    omega
/-- what the pure machine comes to, the machine comes to -/
theorem x_sound (l : Launch) (D : va_G) (cI cL : ClassId) : ∀ n, xOkF l D cI cL (xrun n) := by
  intro n
  induction n with
  | zero =>
    intro k pc ll st w v w' h
    cases h
  | succ n ih =>
    intro k pc ll st w v w' h
    unfold xrun at h
    split at h
    · rename_i i len e
      exact x_ins ih (x_ownAll k) (x_dec e) h
    · cases h
/-- a call of the pure machine is a contract of the method -/
theorem xCall.met {l : Launch} {z : Nat} {as : List Value} {w w1 : xW} {v1 : Option Value} (h : xCall z as w (v1, w1)) (hz : z < 307) (hent : (xent1 as).length ≤ xml z) (D : va_G) (cI cL : ClassId) (ad : Nat → Nat) (sz : Nat) {mc ms : Nat} (h1 : mc + w.length = w1.length) (h2 : ms + xsl w = xsl w1) :
    Met l (xy z) (xTs z) (xRm z mc ms) (xPre D cI cL ad as w sz) (xPost D cI cL ad (va_A (xtw cI cL ad w) sz) v1 w1) mc ms (va_A (xtw cI cL ad w) sz) := by
  obtain ⟨n, hn⟩ := h
  exact x_met (x_sound l D cI cL n _ _ _ _ _ _ _ (hn n (Nat.le_refl n))) hz hent ad sz h1 h2
