/-! FIELDS, ROWS, NEW CELLS -/
def xchkI (c : Nat) : Bool := (xss.getD c []).all fun q => !(q.2.2.2.1 == 2 && Nat.ble q.2.1 1) || (decide ((xy q.2.2.1).name = "<init>") && decide (xret q.2.2.1 = none))
theorem x_i : (List.range 15).all xchkI = true := by decide +kernel
theorem x_isInit {k ix t z : Nat} {x : Int} (hk : xown k < 15) (ht : t ≤ 1) (h : xsite k ix = some (t, z, 2, x)) : (xy z).name = "<init>" ∧ xret z = none := by
  have h1 := List.all_eq_true.mp x_i _ (List.mem_range.mpr hk)
  have h2 := List.all_eq_true.mp h1 _ (x_lookup h)
  simp only [beq_self_eq_true, Bool.true_and, Bool.or_eq_true, Bool.not_eq_true', Bool.and_eq_true, decide_eq_true_eq] at h2
  rcases h2 with h2 | h2
  · rw [Nat.ble_eq_true_of_le ht] at h2
    cases h2
  · exact h2
theorem x_ciLt : ∀ c, c < 15 → (xss.getD c []).all (fun q => !(q.2.1 == 4 || q.2.1 == 8) || Nat.blt q.2.2.1 15) = true := by
  have h : (List.range 15).all (fun c => (xss.getD c []).all (fun q => !(q.2.1 == 4 || q.2.1 == 8) || Nat.blt q.2.2.1 15)) = true := by decide +kernel
  exact fun c hc => List.all_eq_true.mp h c (List.mem_range.mpr hc)
theorem x_ci4 {k ix ci j : Nat} {x : Int} (hk : xown k < 15) (h : xsite k ix = some (4, ci, j, x)) : ci < 15 := by
  have h2 := List.all_eq_true.mp (x_ciLt _ hk) _ (x_lookup h)
  simp [Nat.blt] at h2
  omega
theorem x_ci8 {k ix ci j : Nat} {x : Int} (hk : xown k < 15) (h : xsite k ix = some (8, ci, j, x)) : ci < 15 := by
  have h2 := List.all_eq_true.mp (x_ciLt _ hk) _ (x_lookup h)
  simp [Nat.blt] at h2
  omega
/-- each field that a site names is there -/
theorem x_fjAll : ∀ c, c < 15 → (xss.getD c []).all (fun q => !(q.2.1 == 4) || Nat.blt q.2.2.2.1 (xNc q.2.2.1)) = true := by
  have h : (List.range 15).all (fun c => (xss.getD c []).all (fun q => !(q.2.1 == 4) || Nat.blt q.2.2.2.1 (xNc q.2.2.1))) = true := by decide +kernel
  exact fun c hc => List.all_eq_true.mp h c (List.mem_range.mpr hc)
theorem x_fj {k ix ci j : Nat} {x : Int} (hk : xown k < 15) (h : xsite k ix = some (4, ci, j, x)) : j < xNc ci := by
  have h2 := List.all_eq_true.mp (x_fjAll _ hk) _ (x_lookup h)
  simp [Nat.blt] at h2
  omega
theorem x_fits {ty : FieldType} {v : Value} {ad : Nat → Nat} (h : xfits ty v = true) : narrow ty (xtv ad v) = xtv ad v ∧ fits ty (xtv ad v) = true := by
  cases ty <;> cases v <;> first | exact ⟨rfl, rfl⟩ | (simp [xfits] at h)
section XM
variable {l : Launch} {D : va_G} {cI cL : ClassId} {F : xK} {k pc : Nat} {ll : List (Option Value)} {st : List Value} {w w' : xW} {v : Option Value}
theorem xs_getf (hF : xOkF l D cI cL F) {ix : Nat} (hd : decode (xb k) pc = .ok (.getfield ix, 3)) (h : xgetf F k pc ix ll st w = some (v, w')) : xSnd l D cI cL k pc ll st w v w' := by
  unfold xgetf at h
  split at h
  · rename_i ci j _ a rest hs
    split at h
    · rename_i c2 fs hw
      split at h
      · rename_i hci
        subst hci
        split at h
        · rename_i x hx
          have q := hF _ _ _ _ _ _ _ h
          refine ⟨q.1, fun {p e s m args below meth c A ad mc ms cells slots N0 S0 H locs ls} C O L a1 a2 a3 a4 => ?_⟩
          have ho := x_ownLt _ C.2.2.2.2.2.2.2.2.1
          have hc := x_ci4 ho hs
          refine va_get (v := xtv ad x) (T := xFc c2) (N := xNc c2) (C := xcn.getD c2 "") (ref := (xFc c2 j).1) C.1 C.2.1 C.2.2.2.2.2.2.1 (fun u hu => List.mem_cons_of_mem _ (xtbl_in ((x_cls hc).1 u hu) (x_good_lays u hu))) C.2.2.2.2.2.1 C.2.2.2.2.2.2.2.2.2.1 O.1 a (xtw_get hw) (x_cl _ hc (x_objN (x_fj ho hs))) j (x_fj ho hs) (x_word C hs (by simp [xwords, xFc]) rfl) (fun _ h9 => h9) ?_ hd (q.2 C O L a1 a2 a3 a4)
          rw [List.getElem?_map, hx]
          rfl
        · cases h
      · cases h
    · cases h
  · cases h
theorem xs_putf (hF : xOkF l D cI cL F) {ix : Nat} (hd : decode (xb k) pc = .ok (.putfield ix, 3)) (h : xputf F k pc ix ll st w = some (v, w')) : xSnd l D cI cL k pc ll st w v w' := by
  unfold xputf at h
  split at h
  · rename_i ci j _ x a rest hs
    split at h
    · rename_i c2 fs hw
      split at h
      · rename_i hci
        obtain ⟨rfl, hj⟩ := hci
        split at h
        · rename_i ty fd hty hfd
          split at h
          · rename_i hok
            have q := hF _ _ _ _ _ _ _ h
            have hm : xsl (w.set a (.inr (c2, fs.set j x))) = xsl w := xsl_set hw (by simp [xsz])
            refine ⟨⟨by have := q.1.1; rw [List.length_set] at this; exact this, by have := q.1.2; rw [hm] at this; exact this⟩, fun {p e s m args below meth c A ad mc ms cells slots N0 S0 H locs ls} C O L a1 a2 a3 a4 => ?_⟩
            have ho := x_ownLt _ C.2.2.2.2.2.2.2.2.1
            have hc := x_ci4 ho hs
            have hft := x_fits (ad := ad) hok.1
            have hin : ∀ u ∈ u_ws (xcn.getD c2 "") (xFc c2) (xNc c2), u ∈ xTs k := fun u hu => List.mem_cons_of_mem _ (xtbl_in ((x_cls hc).1 u hu) (x_good_lays u hu))
            have hfe : xFc c2 j = fd := by unfold xFc; rw [List.getD_eq_getElem?_getD, hfd]; rfl
            have hfs : (fs.map (xtv ad)).set j (xtv ad x) = (fs.set j x).map (xtv ad) := by rw [List.map_set]
            have fin : ∀ (H1 : Heap) (locs1 : List Loc), va_P D xcl ((xtw cI cL ad w).set a (ad a, .inr (c2, (fs.map (xtv ad)).set j (xtv ad x)))) H1 → va_D A ((xtw cI cL ad w).set a (ad a, .inr (c2, (fs.map (xtv ad)).set j (xtv ad x)))) → va_S A H H1 locs1 → W p l e (xRm k mc ms) s m args below meth c H1 locs1 cells slots (MQ below (xPost D cI cL ad A v w') args s mc ms A) (F0 m (pc + 3) ls (rest.map (xtv ad))) := by
              intro H1 locs1 hP hD hS
              rw [hfs] at hP hD
              refine x_sz (by have := hS.1; have := O.2.2.2.2.2; omega) (fun hz => ?_)
              exact q.2 (N0 := N0) (S0 := S0) C (O.store hP hD hS hz) L (by rw [List.length_set]; exact a1) a2 (by rw [hm]; exact a3) a4
            by_cases hf : fd.2.2.2 = false
            · exact va_put (v := xtv ad x) (ty := ty) (T := xFc c2) (N := xNc c2) (C := xcn.getD c2 "") (ref := (xFc c2 j).1) C.1 C.2.1 C.2.2.2.2.2.2.1 hin (xTy c2) (x_tyOk hc) (x_cls hc).2.2.2 C.2.2.2.2.2.1 C.2.2.2.2.2.2.2.2.2.1 O.1 O.2.1 O.here a (xtw_get hw) (x_cl _ hc (x_objN (x_fj ho hs))) j (x_fj ho hs) (x_word C hs (by simp [xwords, xFc]) rfl) (fun _ h9 => h9) (by rw [hfe]; exact hf) (x_typ hc hty) hft.1 hft.2 (by rw [List.length_map]; exact hj) hd fin
            · have hok2 := hok.2.resolve_left hf
              exact va_putF (v := xtv ad x) (ty := ty) (T := xFc c2) (N := xNc c2) (C := xcn.getD c2 "") (ref := (xFc c2 j).1) C.1 C.2.1 C.2.2.2.2.2.2.1 hin (xTy c2) (x_tyOk hc) (x_cls hc).2.2.2 C.2.2.2.2.2.1 C.2.2.2.2.2.2.2.2.2.1 O.1 O.2.1 O.here a (xtw_get hw) (x_cl _ hc (x_objN (x_fj ho hs))) j (x_fj ho hs) (x_word C hs (by simp [xwords, xFc]) rfl) (fun _ h9 => h9) (by rw [hfe]; simpa using hf) (by rw [C.2.2.2.2.2.2.2.1]; exact hok2.1) (by rw [hfe, hok2.2]; exact (x_name C.2.2.2.2.2.2.2.2.1).1) (x_typ hc hty) hft.1 hft.2 (by rw [List.length_map]; exact hj) hd fin
          · cases h
        · cases h
      · cases h
    · cases h
  · cases h
theorem xs_ald (hF : xOkF l D cI cL F) (hd : decode (xb k) pc = .ok (.iaload, 1)) (h : xald F k pc ll st w = some (v, w')) : xSnd l D cI cL k pc ll st w v w' := by
  unfold xald at h
  split at h
  · rename_i i a rest
    split at h
    · rename_i n f hw
      split at h
      · cases h
      · rename_i hin
        have q := hF _ _ _ _ _ _ _ h
        exact ⟨q.1, fun C O L a1 a2 a3 a4 => va_iald C.1 C.2.1 C.2.2.2.2.2.2.2.2.2.1 O.1 a 0 (xtw_get hw) rfl hin hd (q.2 C O L a1 a2 a3 a4)⟩
    · cases h
    · split at h
      · rename_i ha
        subst ha
        split at h
        · cases h
        · rename_i hin
          have q := hF _ _ _ _ _ _ _ h
          exact ⟨q.1, fun C O L a1 a2 a3 a4 => va_ti C.1 C.2.1 C.2.2.2.2.2.2.2.2.2.2.2.2.1 O.2.2.1 hin rfl hd (q.2 C O L a1 a2 a3 a4)⟩
      · cases h
  · cases h
theorem xs_alen (hF : xOkF l D cI cL F) (hd : decode (xb k) pc = .ok (.arraylength, 1)) (h : xalen F k pc ll st w = some (v, w')) : xSnd l D cI cL k pc ll st w v w' := by
  unfold xalen at h
  split at h
  · rename_i a rest
    split at h
    · rename_i n f hw
      have q := hF _ _ _ _ _ _ _ h
      exact ⟨q.1, fun C O L a1 a2 a3 a4 => va_alen C.1 C.2.1 C.2.2.2.2.2.2.2.2.2.1 O.1 a 0 (xtw_get hw) rfl rfl hd (q.2 C O L a1 a2 a3 a4)⟩
    · rename_i n f hw
      have q := hF _ _ _ _ _ _ _ h
      exact ⟨q.1, fun C O L a1 a2 a3 a4 => va_alen C.1 C.2.1 C.2.2.2.2.2.2.2.2.2.1 O.1 a 1 (xtw_get hw) rfl rfl hd (q.2 C O L a1 a2 a3 a4)⟩
    · cases h
    · split at h
      · rename_i ha
        subst ha
        have q := hF _ _ _ _ _ _ _ h
        exact ⟨q.1, fun C O L a1 a2 a3 a4 => va_tlen C.1 C.2.1 C.2.2.2.2.2.2.2.2.2.2.2.2.1 O.2.2.1 rfl hd (q.2 C O L a1 a2 a3 a4)⟩
      · cases h
  · cases h
theorem xs_lald (hF : xOkF l D cI cL F) (hd : decode (xb k) pc = .ok (.laload, 1)) (h : xlald F k pc ll st w = some (v, w')) : xSnd l D cI cL k pc ll st w v w' := by
  unfold xlald at h
  split at h
  · rename_i i a rest
    split at h
    · rename_i n f hw
      split at h
      · cases h
      · rename_i hin
        have q := hF _ _ _ _ _ _ _ h
        exact ⟨q.1, fun C O L a1 a2 a3 a4 => va_lald C.1 C.2.1 C.2.2.2.2.2.2.2.2.2.1 O.1 a 1 (xtw_get hw) rfl hin hd (q.2 C O L a1 a2 a3 a4)⟩
    · cases h
  · cases h
theorem xs_iast (hF : xOkF l D cI cL F) (hd : decode (xb k) pc = .ok (.iastore, 1)) (h : xiast F k pc ll st w = some (v, w')) : xSnd l D cI cL k pc ll st w v w' := by
  unfold xiast at h
  split at h
  · rename_i x i a rest
    split at h
    · rename_i n f hw
      split at h
      · cases h
      · rename_i hin
        have q := hF _ _ _ _ _ _ _ h
        have hm : xsl (w.set a (.inl (.inl (n, upd f i.toNatClampNeg x)))) = xsl w := xsl_set hw rfl
        refine ⟨⟨by have := q.1.1; rw [List.length_set] at this; exact this, by have := q.1.2; rw [hm] at this; exact this⟩, fun {p e s m args below meth c A ad mc ms cells slots N0 S0 H locs ls} C O L a1 a2 a3 a4 => ?_⟩
        refine va_iast C.1 C.2.1 C.2.2.2.2.2.2.2.2.2.1 O.1 O.2.1 O.here a 0 (xtw_get hw) rfl hin hd (fun H1 locs1 hP hD hS => ?_)
        refine x_sz (by have := hS.1; have := O.2.2.2.2.2; omega) (fun hz => ?_)
        exact q.2 (N0 := N0) (S0 := S0) C (O.store (c' := .inl (.inl (n, upd f i.toNatClampNeg x))) hP hD hS hz) L (by rw [List.length_set]; exact a1) a2 (by rw [hm]; exact a3) a4
    · cases h
  · cases h
theorem xs_last (hF : xOkF l D cI cL F) (hd : decode (xb k) pc = .ok (.lastore, 1)) (h : xlast F k pc ll st w = some (v, w')) : xSnd l D cI cL k pc ll st w v w' := by
  unfold xlast at h
  split at h
  · rename_i x i a rest
    split at h
    · rename_i n f hw
      split at h
      · cases h
      · rename_i hin
        have q := hF _ _ _ _ _ _ _ h
        have hm : xsl (w.set a (.inl (.inr (n, vp_updL f i.toNatClampNeg x)))) = xsl w := xsl_set hw rfl
        refine ⟨⟨by have := q.1.1; rw [List.length_set] at this; exact this, by have := q.1.2; rw [hm] at this; exact this⟩, fun {p e s m args below meth c A ad mc ms cells slots N0 S0 H locs ls} C O L a1 a2 a3 a4 => ?_⟩
        refine va_last C.1 C.2.1 C.2.2.2.2.2.2.2.2.2.1 O.1 O.2.1 O.here a 1 (xtw_get hw) rfl hin hd (fun H1 locs1 hP hD hS => ?_)
        refine x_sz (by have := hS.1; have := O.2.2.2.2.2; omega) (fun hz => ?_)
        exact q.2 (N0 := N0) (S0 := S0) C (O.store (c' := .inl (.inr (n, vp_updL f i.toNatClampNeg x))) hP hD hS hz) L (by rw [List.length_set]; exact a1) a2 (by rw [hm]; exact a3) a4
    · cases h
  · cases h
end XM
