/-! THE LAW OVER THE PURE HEAP -/
abbrev lA (s : State) : Nat → Prop := fun q => s.heap.size ≤ q
/-- the pure heap w stands in the machine's heap H -/
def lOK (D : va_G) (cI cL : ClassId) (ad : Nat → Nat) (s : State) (w : xW) (H : Heap) (locs : List Loc) : Prop :=
  va_P D xcl (xtw cI cL ad w) H ∧ va_D (lA s) (xtw cI cL ad w) ∧ va_S (lA s) s.heap H locs ∧ w.length < xP ∧ ∀ j, w.length + j < xP → ad (w.length + j) = H.size + j
/-- what holds all through the law's run -/
def lCx (p : Program) (s : State) (m : MethodId) (meth : Method) (c : Code) (b L : Nat) (xs : Nat → Int32) (D : va_G) (cI cL : ClassId) (tP : Nat) : Prop :=
  lw_At p s m meth c b L xs ∧ va_K D xcl (xTys cI cL) s ∧ xSt tP (lA s) s s.heap
theorem l_goodIn {z : Nat} (hz : z < 307) : GoodIn lw_tbl (xTs z) := by
  have good : ∀ w ∈ xtbl, (w.onTables && w.keeps) = true ∨ ∃ ty, w = .arrayClass ty := fun w hw => good_of_word (List.mem_filter.mp hw).2
  intro w hw
  rcases List.mem_cons.mp hw with rfl | hw
  · exact ⟨x_code hz, good _ (xtbl_in (x_code hz) rfl)⟩
  · exact ⟨(List.mem_filter.mp hw).1, good _ hw⟩
section LW
variable {p : Program} {l : Launch} {e : Env} {s : State} {m : MethodId} {below : List Frame} {meth : Method} {c : Code} {b L : Nat} {xs : Nat → Int32} {D : va_G} {cI cL : ClassId} {tP : Nat} {ad : Nat → Nat} {w w1 : xW} {H : Heap} {locs : List Loc} {cells slots : Nat} {Q : State → Prop} {ls : Array Slot} {pc : Nat}
theorem lOK.sub (O : lOK D cI cL ad s w H locs) : ∀ q, va_A (xtw cI cL ad w) H.size q → lA s q := by
  intro q h
  rcases h with ⟨k, e, h⟩ | h
  · exact O.2.1.2 k (q, e) h
  · exact Nat.le_trans O.2.2.1.1 h
theorem l_word (C : lCx p s m meth c b L xs D cI cL tP) {ix : Nat} {q : Nat × Nat × Nat × Int} (h : lss.lookup ix = some q) {u : Cond} (hu : u ∈ xwords "BernoulliWaysLaw" ix q) : u.before #[Value.ref b] s = true :=
  C.1.2.2.2.2.2.1 u (l_siteW h u hu)
theorem l_pre (C : lCx p s m meth c b L xs D cI cL tP) (hP : ad xP = tP) (O : lOK D cI cL ad s w H locs) (as : List Value) (U : State) (hU : U.heap = H) (hW : s.WarmedH U.vm) : xPre D cI cL ad as w H.size (as.map (xtv ad)).toArray U := by
  obtain ⟨-, hK, hSt⟩ := C
  refine ⟨rfl, by rw [hU], by rw [hU]; exact O.1, va_K.moved hW.alike hK, O.2.1.weaken (fun _ _ _ _ => trivial), O.2.2.2.1, O.2.2.2.2, ?_⟩
  rw [hU, hP]
  exact hSt.to hW O.2.2.1.2.1 O.sub
/-- behind a call -/
theorem l_aft {v1 : Option Value} {st0 rest : List Value} {a : Array Value} {mc ms : Nat} (O : lOK D cI cL ad s w H locs)
    (hr : va_Run p l e room_1 s m #[Value.ref b] below meth c H locs cells slots mc ms (F0 m pc ls st0) rest (xPost D cI cL ad (va_A (xtw cI cL ad w) H.size) v1 w1 a) (va_A (xtw cI cL ad w) H.size))
    (kk : ∀ (H1 : Heap) (locs1 : List Loc), lOK D cI cL ad s w1 H1 locs1 → W p l e room_1 s m #[Value.ref b] below meth c H1 locs1 (cells + mc) (slots + ms) Q (F0 m (pc + 3) ls ((v1.map (xtv ad)).toList ++ rest))) :
    W p l e room_1 s m #[Value.ref b] below meth c H locs cells slots Q (F0 m pc ls st0) := by
  refine x_call hr O.2.2.1 (fun q _ h => O.sub q h) O.sub (fun t H1 locs1 ht hB hS1 => ?_)
  obtain ⟨hP1, hK1, hD1, hl1, had1⟩ := hB
  rw [ht] at hP1 had1
  exact kk H1 locs1 ⟨hP1, hD1.weaken (fun k q _ h => O.sub q.1 h), hS1, hl1, had1⟩
/-- a call of a method of an object -/
theorem law_V (C : lCx p s m meth c b L xs D cI cL tP) (hP : ad xP = tP) (O : lOK D cI cL ad s w H locs) {ix z b0 : Nat} {x : Int} {as : List Value} {v : Value} {fs : List Value} {rest : List Value} (hs : lss.lookup ix = some (0, z, 0, x)) (h : xCall z (.ref b0 :: as) w (some v, w1)) (hl : w1.length = w.length) (hsl : xsl w1 = xsl w) (hb : w[b0]? = some (.inr (xown z, fs))) (hobj : xobj (xown z) = true) (hent : (xent1 (.ref b0 :: as)).length ≤ xml z) (hna : as.length = xna z)
    (hd : decode code pc = .ok (.invokevirtual ix, 3)) (hsz : ls.size = 8) (hc : (rest.map fun v => v.category).sum ≤ 8) (hcl : cells ≤ 1093) (hsls : slots ≤ 14678)
    (kk : ∀ (H1 : Heap) (locs1 : List Loc), lOK D cI cL ad s w1 H1 locs1 → W p l e room_1 s m #[Value.ref b] below meth c H1 locs1 cells slots Q (F0 m (pc + 3) ls (xtv ad v :: rest.map (xtv ad)))) :
    W p l e room_1 s m #[Value.ref b] below meth c H locs cells slots Q (F0 m pc ls ((as.map (xtv ad)).reverse ++ .ref (ad b0) :: rest.map (xtv ad))) := by
  obtain ⟨c1, c2, c5⟩ := l_rooms hs
  have nm := x_name c5
  obtain ⟨⟨hx, hbc, hr, hml, hown, hts, -⟩, hK, -⟩ := id C
  refine l_aft (v1 := some v) (w1 := w1) (mc := 0) (ms := 0) (a := (Value.ref (ad b0) :: as.map (xtv ad)).toArray) (rest := rest.map (xtv ad)) O ?_ (fun H1 locs1 O1 => kk H1 locs1 O1)
  refine va_runV (C := (xy z).cls) (b := ad b0) (bytes := xb z) (maxL := xml z) (ret := xret z) (n := xna z) (As := as.map (xtv ad)) ⟨hx, hbc, hml, hown, hts⟩ (h.met c5 hent D cI cL ad H.size (by omega) (by omega)) ⟨callB_of (xna z) hts (l_goodIn c5) rfl rfl rfl (l_word C hs (u := .initialized (xy z).cls) (by simp [xwords])) (l_word C hs (u := .methodLink "BernoulliWaysLaw" ix (xy z)) (by simp [xwords])) nm.2.2 ⟨c1, c2⟩, l_word C hs (u := .instanceMethod (xy z)) (by simp [xwords]), l_word C hs (u := .selects (xy z).cls (xy z) (xy z)) (by simp [xwords])⟩ ⟨xPre.blind, ?_, fun U hU hW => l_pre C hP O (.ref b0 :: as) U hU hW⟩ rfl ?_ hsz rfl ?_ hd ?_
  · have hr := va_recv hK O.1 (x_cl _ (x_ownLt _ c5) hobj) (xtw_get hb)
    rw [nm.1]
    exact hr
  · rw [List.length_map]; exact hna
  · rw [xtv_cats]
    show 2 * 0 + _ ≤ 8
    omega
  · exact ⟨hcl, hsls⟩
/-- a constructor -/
theorem law_I (C : lCx p s m meth c b L xs D cI cL tP) (hP : ad xP = tP) (O : lOK D cI cL ad s w H locs) {ix z b0 : Nat} {x : Int} {rest : List Value} {mc ms : Nat} (hs : lss.lookup ix = some (0, z, 2, x)) (hnm : (xy z).name = "<init>") (hret : xret z = none) (h : xCall z [.ref b0] w (none, w1)) (hl : mc + w.length = w1.length) (hsl : ms + xsl w = xsl w1) (hent : 1 ≤ xml z) (hna : 0 = xna z)
    (hd : decode code pc = .ok (.invokespecial ix, 3)) (hsz : ls.size = 8) (hc : (rest.map fun v => v.category).sum ≤ 8) (hcl : cells + mc ≤ 1093) (hsls : slots + ms ≤ 14678)
    (kk : ∀ (H1 : Heap) (locs1 : List Loc), lOK D cI cL ad s w1 H1 locs1 → W p l e room_1 s m #[Value.ref b] below meth c H1 locs1 (cells + mc) (slots + ms) Q (F0 m (pc + 3) ls (rest.map (xtv ad)))) :
    W p l e room_1 s m #[Value.ref b] below meth c H locs cells slots Q (F0 m pc ls (.ref (ad b0) :: rest.map (xtv ad))) := by
  obtain ⟨c1, c2, c5⟩ := l_rooms hs
  have nm := x_name c5
  obtain ⟨⟨hx, hbc, hr, hml, hown, hts, -⟩, hK, -⟩ := id C
  refine l_aft (v1 := none) (w1 := w1) (mc := mc) (ms := ms) (a := [Value.ref (ad b0)].toArray) (rest := rest.map (xtv ad)) O ?_ (fun H1 locs1 O1 => kk H1 locs1 O1)
  refine va_runI (b := ad b0) (bytes := xb z) (maxL := xml z) (n := xna z) (As := []) ⟨hx, hbc, hml, hown, hts⟩ (h.met c5 hent D cI cL ad H.size hl hsl) ⟨callB_of (xna z) hts (l_goodIn c5) (by unfold xTs; rw [hret]) rfl rfl (l_word C hs (u := .initialized (xy z).cls) (by simp [xwords])) (l_word C hs (u := .methodLink "BernoulliWaysLaw" ix (xy z)) (by simp [xwords])) nm.2.2 ⟨c1, c2⟩, hnm, l_word C hs (u := .instanceMethod (xy z)) (by simp [xwords])⟩ ⟨xPre.blind, fun U hU hW => l_pre C hP O [.ref b0] U hU hW⟩ rfl hna hsz rfl ?_ hd ?_
  · rw [xtv_cats]
    show 2 * 0 + _ ≤ 8
    omega
  · exact ⟨hcl, hsls⟩
end LW
