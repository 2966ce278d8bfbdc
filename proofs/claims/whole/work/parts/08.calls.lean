/-! CALLS -/
def xOkF (l : Launch) (D : va_G) (cI cL : ClassId) (F : xK) : Prop := ∀ k pc ll st w v w', F k pc ll st w = some (v, w') → xSnd l D cI cL k pc ll st w v w'
theorem x_dec {k pc : Nat} {i : Instr} {len : Nat} (h : xcode k pc = some (i, len)) : decode (xb k) pc = .ok (i, len) := by
  unfold xcode at h
  split at h
  · rename_i r e
    cases h
    exact e
  · cases h
section XK
variable {l : Launch} {D : va_G} {cI cL : ClassId} {F : xK} {k pc : Nat} {ll : List (Option Value)} {w w' : xW} {v : Option Value}
theorem xs_go (hF : xOkF l D cI cL F) {z : Nat} {as rest : List Value} (h : xgo F k pc ll w z as rest = some (v, w')) : ∃ v1 w1, (xfr z + 1 ≤ xfr k ∧ 8 + (xml z + 11) + xlo z ≤ xlo k ∧ (rest.map fun v => v.category).sum ≤ 8 ∧ (xent1 as).length ≤ xml z ∧ z < 307) ∧ xSnd l D cI cL z 0 (xent (xml z) as) [] w v1 w1 ∧ xSnd l D cI cL k (pc + 3) ll (v1.toList ++ rest) w1 v w' := by
  unfold xgo at h
  split at h
  · rename_i hc
    rw [x_mlen] at hc
    unfold xaft at h
    split at h
    · rename_i v1 w1 e
      exact ⟨v1, w1, hc, hF _ _ _ _ _ _ _ e, hF _ _ _ _ _ _ _ h⟩
    · cases h
  · cases h
variable {p : Program} {e : Env} {s : State} {m : MethodId} {args : Array Value} {below : List Frame} {meth : Method} {c : Code} {A : Nat → Prop} {ad : Nat → Nat} {mc ms cells slots N0 S0 : Nat} {H : Heap} {locs : List Loc} {ls : Array Slot}
theorem x_pre (C : xCx p s m args meth c k D cI cL ad A) (O : xOK D cI cL ad A s.heap w H locs cells) (as : List Value) (U : State) (hU : U.heap = H) (hW : s.WarmedH U.vm) : xPre D cI cL ad as w H.size (as.map (xtv ad)).toArray U := by
  obtain ⟨-, -, -, -, -, -, -, -, -, hK, hA, hSt⟩ := C
  refine ⟨rfl, by rw [hU], by rw [hU]; exact O.1, va_K.moved hW.alike hK, O.2.1.weaken (fun _ _ _ _ => trivial), O.2.2.2.1, O.2.2.2.2.1, ?_⟩
  rw [hU]
  exact hSt.to hW O.2.2.1.2.1 (O.sub hA)
theorem xs_aft {z : Nat} {as rest : List Value} {v1 : Option Value} {w1 : xW} {st0 : List Value} {a : Array Value} (q1 : xSnd l D cI cL z 0 (xent (xml z) as) [] w v1 w1) (q2 : xSnd l D cI cL k (pc + 3) ll (v1.toList ++ rest) w1 v w')
    (C : xCx p s m args meth c k D cI cL ad A) (O : xOK D cI cL ad A s.heap w H locs cells) (L : xLoc ad ls (xml k) ll) (a1 : cells + N0 = w.length) (a2 : mc + N0 = w'.length) (a3 : slots + S0 = xsl w) (a4 : ms + S0 = xsl w')
    (hr : va_Run p l e (xRm k mc ms) s m args below meth c H locs cells slots (w1.length - w.length) (xsl w1 - xsl w) (F0 m pc ls st0) (rest.map (xtv ad)) (xPost D cI cL ad (va_A (xtw cI cL ad w) H.size) v1 w1 a) (va_A (xtw cI cL ad w) H.size)) :
    W p l e (xRm k mc ms) s m args below meth c H locs cells slots (MQ below (xPost D cI cL ad A v w') args s mc ms A) (F0 m pc ls st0) := by
  have hA := C.2.2.2.2.2.2.2.2.2.2.1
  refine x_call hr O.2.2.1 (fun q _ h => O.sub hA q h) (O.sub hA) (fun t H1 locs1 ht hB hS1 => ?_)
  obtain ⟨hP1, hK1, hD1, hl1, had1⟩ := hB
  rw [ht] at hP1 had1
  have hm := q1.1
  have hz : H1.size = s.heap.size + (cells + (w1.length - w.length)) := by
    have e1 := had1 0 (by omega)
    have e2 := O.2.2.2.2.1 (w1.length - w.length) (by omega)
    rw [show w.length + (w1.length - w.length) = w1.length + 0 by omega, e1] at e2
    have e3 := O.2.2.2.2.2
    omega
  have hst : (v1.map (xtv ad)).toList ++ rest.map (xtv ad) = (v1.toList ++ rest).map (xtv ad) := by
    rw [List.map_append]
    cases v1 <;> rfl
  rw [hst]
  exact q2.2 (N0 := N0) (S0 := S0) C ⟨hP1, hD1.weaken (fun k q _ h => O.sub hA q.1 h), hS1, hl1, had1, hz⟩ L (by omega) a2 (by omega) a4
/-- a word of a site holds -/
theorem x_word {ix : Nat} {q : Nat × Nat × Nat × Int} (C : xCx p s m args meth c k D cI cL ad A) (h : xsite k ix = some q) {u : Cond} (hu : u ∈ xwords (xcn.getD (xown k) "") ix q) (hg : goodWord u = true) : u.before args s = true :=
  C.2.2.2.2.2.2.1 u (List.mem_cons_of_mem _ (xtbl_in (x_siteW (x_ownLt _ C.2.2.2.2.2.2.2.2.1) h u hu) hg))
theorem x_nest {ix : Nat} {q : Nat × Nat × Nat × Int} (C : xCx p s m args meth c k D cI cL ad A) (h : xsite k ix = some q) {u : Cond} (hu : u ∈ xwords (xcn.getD (xown k) "") ix q) (hg : xisNest u = true) : va_Nw u s :=
  C.2.2.2.2.2.2.2.2.2.2.2.2.2 u (x_siteW (x_ownLt _ C.2.2.2.2.2.2.2.2.1) h u hu) hg
end XK
section XI
variable {l : Launch} {D : va_G} {cI cL : ClassId} {F : xK} {k pc : Nat} {ll : List (Option Value)} {st : List Value} {w w' : xW} {v : Option Value}
theorem x_split {ad : Nat → Nat} (st : List Value) (n : Nat) : st.map (xtv ad) = ((st.take n).reverse.map (xtv ad)).reverse ++ (st.drop n).map (xtv ad) := by
  rw [← List.map_reverse, List.reverse_reverse, ← List.map_append, List.take_append_drop]
theorem xs_invV (hF : xOkF l D cI cL F) {ix : Nat} (hd : decode (xb k) pc = .ok (.invokevirtual ix, 3)) (h : xinvV F k pc ix ll st w = some (v, w')) : xSnd l D cI cL k pc ll st w v w' := by
  unfold xinvV at h
  split at h
  · rename_i z _ hs
    split at h
    · rename_i hlen
      split at h
      · rename_i b rest hdrop
        split at h
        · rename_i ci fs hb
          split at h
          · rename_i hci
            subst hci
            obtain ⟨v1, w1, ⟨c1, c2, c3, c4, c5⟩, q1, q2⟩ := xs_go hF h
            refine ⟨⟨Nat.le_trans q1.1.1 q2.1.1, Nat.le_trans q1.1.2 q2.1.2⟩, fun {p e s m args below meth c A ad mc ms cells slots N0 S0 H locs ls} C O L a1 a2 a3 a4 => ?_⟩
            have e1 : (w1.length - w.length) + w.length = w1.length := by have := q1.1.1; omega
            have e2 : (xsl w1 - xsl w) + xsl w = xsl w1 := by have := q1.1.2; omega
            have nm := x_name c5
            have hst : st.map (xtv ad) = (((st.take (xna z)).reverse.map (xtv ad))).reverse ++ .ref (ad b) :: rest.map (xtv ad) := by
              rw [x_split st (xna z), hdrop]
              rfl
            refine xs_aft (as := .ref b :: (st.take (xna z)).reverse) (a := (Value.ref (ad b) :: (st.take (xna z)).reverse.map (xtv ad)).toArray) q1 q2 C O L a1 a2 a3 a4 ?_
            refine va_runV (C := (xy z).cls) (b := ad b) (bytes := xb z) (maxL := xml z) (ret := xret z) (n := xna z) (As := (st.take (xna z)).reverse.map (xtv ad)) ⟨C.1, C.2.1, C.2.2.2.1, C.2.2.2.2.2.1, C.2.2.2.2.2.2.1⟩ (x_met q1 c5 c4 ad H.size e1 e2) ⟨callB_of (xna z) C.2.2.2.2.2.2.1 (x_goodIn k c5) rfl rfl rfl (x_word C hs (u := .initialized (xy z).cls) (by simp [xwords]) rfl) (x_word C hs (u := .methodLink _ ix (xy z)) (by simp [xwords]) rfl) nm.2.2 ⟨c1, c2⟩, x_word C hs (u := .instanceMethod (xy z)) (by simp [xwords]) rfl, x_word C hs (u := .selects (xy z).cls (xy z) (xy z)) (by simp [xwords]) rfl⟩ ⟨xPre.blind, ?_, fun U hU hW => x_pre C O (.ref b :: (st.take (xna z)).reverse) U hU hW⟩ rfl ?_ L.1 hst ?_ hd ?_
            · have hr := va_recv C.2.2.2.2.2.2.2.2.2.1 O.1 (x_cl _ (x_ownLt _ c5) (x_objS (x_ownLt _ C.2.2.2.2.2.2.2.2.1) hs)) (xtw_get hb)
              rw [nm.1]
              exact hr
            · simp; omega
            · rw [xtv_cats]
              show 2 * 0 + _ ≤ 8
              omega
            · have := q2.1
              exact ⟨by show _ ≤ mc; omega, by show _ ≤ ms; omega⟩
          · cases h
        · cases h
      · cases h
    · cases h
  · cases h
theorem xs_S (hF : xOkF l D cI cL F) {ix z : Nat} {x : Int} (hs : xsite k ix = some (0, z, 1, x)) (hd : decode (xb k) pc = .ok (.invokestatic ix, 3)) (hlen : xna z ≤ st.length) (h : xgo F k pc ll w z (st.take (xna z)).reverse (st.drop (xna z)) = some (v, w')) : xSnd l D cI cL k pc ll st w v w' := by
  obtain ⟨v1, w1, ⟨c1, c2, c3, c4, c5⟩, q1, q2⟩ := xs_go hF h
  refine ⟨⟨Nat.le_trans q1.1.1 q2.1.1, Nat.le_trans q1.1.2 q2.1.2⟩, fun {p e s m args below meth c A ad mc ms cells slots N0 S0 H locs ls} C O L a1 a2 a3 a4 => ?_⟩
  have e1 : (w1.length - w.length) + w.length = w1.length := by have := q1.1.1; omega
  have e2 : (xsl w1 - xsl w) + xsl w = xsl w1 := by have := q1.1.2; omega
  have nm := x_name c5
  have hst := x_split (ad := ad) st (xna z)
  refine xs_aft (as := (st.take (xna z)).reverse) (a := ((st.take (xna z)).reverse.map (xtv ad)).toArray) q1 q2 C O L a1 a2 a3 a4 ?_
  refine va_runS (bytes := xb z) (maxL := xml z) (ret := xret z) (n := xna z) (As := (st.take (xna z)).reverse.map (xtv ad)) ⟨C.1, C.2.1, C.2.2.2.1, C.2.2.2.2.2.1, C.2.2.2.2.2.2.1⟩ (x_met q1 c5 c4 ad H.size e1 e2) ⟨callB_of (xna z) C.2.2.2.2.2.2.1 (x_goodIn k c5) rfl rfl rfl (x_word C hs (u := .initialized (xy z).cls) (by simp [xwords]) rfl) (x_word C hs (u := .methodLink _ ix (xy z)) (by simp [xwords]) rfl) nm.2.2 ⟨c1, c2⟩, x_word C hs (u := .static (xy z)) (by simp [xwords]) rfl⟩ ⟨xPre.blind, fun U hU hW => x_pre C O (st.take (xna z)).reverse U hU hW⟩ rfl ?_ L.1 hst ?_ hd ?_
  · simp; omega
  · rw [xtv_cats]
    show 2 * 0 + _ ≤ 8
    omega
  · have := q2.1
    exact ⟨by show _ ≤ mc; omega, by show _ ≤ ms; omega⟩
theorem xs_SN (hF : xOkF l D cI cL F) {ix z : Nat} {x : Int} (hs : xsite k ix = some (1, z, 1, x)) (hd : decode (xb k) pc = .ok (.invokestatic ix, 3)) (hlen : xna z ≤ st.length) (h : xgo F k pc ll w z (st.take (xna z)).reverse (st.drop (xna z)) = some (v, w')) : xSnd l D cI cL k pc ll st w v w' := by
  obtain ⟨v1, w1, ⟨c1, c2, c3, c4, c5⟩, q1, q2⟩ := xs_go hF h
  refine ⟨⟨Nat.le_trans q1.1.1 q2.1.1, Nat.le_trans q1.1.2 q2.1.2⟩, fun {p e s m args below meth c A ad mc ms cells slots N0 S0 H locs ls} C O L a1 a2 a3 a4 => ?_⟩
  have e1 : (w1.length - w.length) + w.length = w1.length := by have := q1.1.1; omega
  have e2 : (xsl w1 - xsl w) + xsl w = xsl w1 := by have := q1.1.2; omega
  have nm := x_name c5
  have hst := x_split (ad := ad) st (xna z)
  refine xs_aft (as := (st.take (xna z)).reverse) (a := ((st.take (xna z)).reverse.map (xtv ad)).toArray) q1 q2 C O L a1 a2 a3 a4 ?_
  refine va_runSN (bytes := xb z) (maxL := xml z) (ret := xret z) (n := xna z) (As := (st.take (xna z)).reverse.map (xtv ad)) ⟨C.1, C.2.1, C.2.2.2.1, C.2.2.2.2.2.1, C.2.2.2.2.2.2.1⟩ (x_met q1 c5 c4 ad H.size e1 e2) ⟨va_cnB (host := "BernoulliWays") (xna z) C.2.2.2.2.2.2.1 (x_goodIn k c5) rfl rfl rfl (x_nest C hs (u := .methodLinkNest _ ix (xy z) "BernoulliWays") (by simp [xwords]) rfl) (x_word C hs (u := .initialized (xy z).cls) (by simp [xwords]) rfl) nm.2.2 ⟨c1, c2⟩, x_word C hs (u := .static (xy z)) (by simp [xwords]) rfl, trivial⟩ ⟨xPre.blind, fun U hU hW => x_pre C O (st.take (xna z)).reverse U hU hW⟩ rfl ?_ L.1 hst ?_ hd ?_
  · simp; omega
  · rw [xtv_cats]
    show 2 * 0 + _ ≤ 8
    omega
  · have := q2.1
    exact ⟨by show _ ≤ mc; omega, by show _ ≤ ms; omega⟩
theorem xs_I (hF : xOkF l D cI cL F) {ix z b : Nat} {rest : List Value} {x : Int} (hs : xsite k ix = some (0, z, 2, x)) (hnm : (xy z).name = "<init>") (hret : xret z = none) (hd : decode (xb k) pc = .ok (.invokespecial ix, 3)) (hlen : xna z + 1 ≤ st.length) (hdrop : st.drop (xna z) = .ref b :: rest) (h : xgo F k pc ll w z (.ref b :: (st.take (xna z)).reverse) rest = some (v, w')) : xSnd l D cI cL k pc ll st w v w' := by
  obtain ⟨v1, w1, ⟨c1, c2, c3, c4, c5⟩, q1, q2⟩ := xs_go hF h
  refine ⟨⟨Nat.le_trans q1.1.1 q2.1.1, Nat.le_trans q1.1.2 q2.1.2⟩, fun {p e s m args below meth c A ad mc ms cells slots N0 S0 H locs ls} C O L a1 a2 a3 a4 => ?_⟩
  have e1 : (w1.length - w.length) + w.length = w1.length := by have := q1.1.1; omega
  have e2 : (xsl w1 - xsl w) + xsl w = xsl w1 := by have := q1.1.2; omega
  have nm := x_name c5
  have hst : st.map (xtv ad) = (((st.take (xna z)).reverse.map (xtv ad))).reverse ++ .ref (ad b) :: rest.map (xtv ad) := by
    rw [x_split st (xna z), hdrop]
    rfl
  refine xs_aft (as := .ref b :: (st.take (xna z)).reverse) (a := (Value.ref (ad b) :: (st.take (xna z)).reverse.map (xtv ad)).toArray) q1 q2 C O L a1 a2 a3 a4 ?_
  refine va_runI (b := ad b) (bytes := xb z) (maxL := xml z) (n := xna z) (As := (st.take (xna z)).reverse.map (xtv ad)) ⟨C.1, C.2.1, C.2.2.2.1, C.2.2.2.2.2.1, C.2.2.2.2.2.2.1⟩ (x_met q1 c5 c4 ad H.size e1 e2) ⟨callB_of (xna z) C.2.2.2.2.2.2.1 (x_goodIn k c5) (by unfold xTs; rw [hret]) rfl rfl (x_word C hs (u := .initialized (xy z).cls) (by simp [xwords]) rfl) (x_word C hs (u := .methodLink _ ix (xy z)) (by simp [xwords]) rfl) nm.2.2 ⟨c1, c2⟩, hnm, x_word C hs (u := .instanceMethod (xy z)) (by simp [xwords]) rfl⟩ ⟨xPre.blind, fun U hU hW => x_pre C O (.ref b :: (st.take (xna z)).reverse) U hU hW⟩ rfl ?_ L.1 hst ?_ hd ?_
  · simp; omega
  · rw [xtv_cats]
    show 2 * 0 + _ ≤ 8
    omega
  · have := q2.1
    exact ⟨by show _ ≤ mc; omega, by show _ ≤ ms; omega⟩
theorem xs_IN (hF : xOkF l D cI cL F) {ix z b : Nat} {rest : List Value} {x : Int} (hs : xsite k ix = some (1, z, 2, x)) (hnm : (xy z).name = "<init>") (hret : xret z = none) (hd : decode (xb k) pc = .ok (.invokespecial ix, 3)) (hlen : xna z + 1 ≤ st.length) (hdrop : st.drop (xna z) = .ref b :: rest) (h : xgo F k pc ll w z (.ref b :: (st.take (xna z)).reverse) rest = some (v, w')) : xSnd l D cI cL k pc ll st w v w' := by
  obtain ⟨v1, w1, ⟨c1, c2, c3, c4, c5⟩, q1, q2⟩ := xs_go hF h
  refine ⟨⟨Nat.le_trans q1.1.1 q2.1.1, Nat.le_trans q1.1.2 q2.1.2⟩, fun {p e s m args below meth c A ad mc ms cells slots N0 S0 H locs ls} C O L a1 a2 a3 a4 => ?_⟩
  have e1 : (w1.length - w.length) + w.length = w1.length := by have := q1.1.1; omega
  have e2 : (xsl w1 - xsl w) + xsl w = xsl w1 := by have := q1.1.2; omega
  have nm := x_name c5
  have hst : st.map (xtv ad) = (((st.take (xna z)).reverse.map (xtv ad))).reverse ++ .ref (ad b) :: rest.map (xtv ad) := by
    rw [x_split st (xna z), hdrop]
    rfl
  refine xs_aft (as := .ref b :: (st.take (xna z)).reverse) (a := (Value.ref (ad b) :: (st.take (xna z)).reverse.map (xtv ad)).toArray) q1 q2 C O L a1 a2 a3 a4 ?_
  refine va_runIN (b := ad b) (bytes := xb z) (maxL := xml z) (n := xna z) (As := (st.take (xna z)).reverse.map (xtv ad)) ⟨C.1, C.2.1, C.2.2.2.1, C.2.2.2.2.2.1, C.2.2.2.2.2.2.1⟩ (x_met q1 c5 c4 ad H.size e1 e2) ⟨va_cnB (host := "BernoulliWays") (xna z) C.2.2.2.2.2.2.1 (x_goodIn k c5) (by unfold xTs; rw [hret]) rfl rfl (x_nest C hs (u := .methodLinkNest _ ix (xy z) "BernoulliWays") (by simp [xwords]) rfl) (x_word C hs (u := .initialized (xy z).cls) (by simp [xwords]) rfl) nm.2.2 ⟨c1, c2⟩, hnm, x_word C hs (u := .instanceMethod (xy z)) (by simp [xwords]) rfl⟩ ⟨xPre.blind, fun U hU hW => x_pre C O (.ref b :: (st.take (xna z)).reverse) U hU hW⟩ rfl ?_ L.1 hst ?_ hd ?_
  · simp; omega
  · rw [xtv_cats]
    show 2 * 0 + _ ≤ 8
    omega
  · have := q2.1
    exact ⟨by show _ ≤ mc; omega, by show _ ≤ ms; omega⟩
end XI
