/-! ROWS OVER THE PURE HEAP -/
section XR
variable {p : Program} {l : Launch} {e : Env} {R : Room} {s : State} {m : MethodId} {args : Array Value} {below : List Frame} {meth : Method} {c : Code} {H : Heap} {locs : List Loc} {cells slots : Nat} {Q : State → Prop}
variable {D : va_G} {cI cL : ClassId} {ad : Nat → Nat} {A : Nat → Prop} {H0 : Heap} {w : xW}
/-- the machine's own count of new cells bounds the heap -/
theorem x_sz {H1 : Heap} {locs1 : List Loc} {g : JFrame} (hlow : s.heap.size + cells ≤ H1.size) (kk : H1.size = s.heap.size + cells → W p l e R s m args below meth c H1 locs1 cells slots Q g) : W p l e R s m args below meth c H1 locs1 cells slots Q g := by
  intro T hT X
  refine kk (Nat.le_antisymm ?_ hlow) T hT X
  have h := X.same.2.2.1
  have h2 : T.heap.size ≤ s.heap.size + cells := h
  rw [hT] at h2
  exact h2
theorem xOK.here (O : xOK D cI cL ad A H0 w H locs cells) : va_S A H H locs := ⟨Nat.le_refl _, fun _ _ _ => rfl, O.2.2.1.2.2⟩
theorem xOK.trans {H1 : Heap} {locs1 : List Loc} (O : xOK D cI cL ad A H0 w H locs cells) (hS : va_S A H H1 locs1) : va_S A H0 H1 locs1 := by
  obtain ⟨h1, h2, h3⟩ := O.2.2.1
  exact ⟨Nat.le_trans h1 hS.1, fun q hq hA => (hS.2.1 q (Nat.lt_of_lt_of_le hq h1) hA).trans (h2 q hq hA), hS.2.2⟩
/-- a cell is written -/
theorem xOK.store {a : Nat} {c' : xC} {H1 : Heap} {locs1 : List Loc} (O : xOK D cI cL ad A H0 w H locs cells) (hP : va_P D xcl ((xtw cI cL ad w).set a (ad a, xte cI cL ad c')) H1) (hD : va_D A ((xtw cI cL ad w).set a (ad a, xte cI cL ad c'))) (hS : va_S A H H1 locs1) (hz : H1.size = H0.size + cells) : xOK D cI cL ad A H0 (w.set a c') H1 locs1 cells := by
  refine ⟨by rw [xtw_set]; exact hP, by rw [xtw_set]; exact hD, O.trans hS, by rw [List.length_set]; exact O.2.2.2.1, fun j hj => ?_, hz⟩
  rw [List.length_set] at hj ⊢
  rw [O.2.2.2.2.1 j hj, hz, O.2.2.2.2.2]
/-- a cell is made -/
theorem xOK.push {c' : xC} {H1 : Heap} (O : xOK D cI cL ad A H0 w H locs cells) (hA : ∀ q, H0.size ≤ q → A q) (hlt : w.length + 1 < xP) (hc : va_at D xcl (H.size, xte cI cL ad c') H1) (hz : H1.size = H.size + 1) (oq : ∀ q, q < H.size → H1[q]? = H[q]?) : ad w.length = H.size ∧ xOK D cI cL ad A H0 (w ++ [c']) H1 locs (cells + 1) := by
  obtain ⟨hP, hD, hS, hle, had, hsz⟩ := O
  have e0 : ad w.length = H.size := by
    have := had 0 (by omega)
    simpa using this
  have hk : ∀ (k : Nat) (x : Nat × va_E), (xtw cI cL ad w)[k]? = some x → H1[x.1]? = H[x.1]? := fun k x hx => oq x.1 ((hP k x hx).lt)
  refine ⟨e0, ?_, ?_, ⟨Nat.le_trans hS.1 (by omega), fun x h1 h2 => (oq x (Nat.lt_of_lt_of_le h1 hS.1)).trans (hS.2.1 x h1 h2), hS.2.2⟩, by rw [List.length_append]; simp; omega, fun j hj => ?_, by omega⟩
  · rw [xtw_app, e0]
    refine (hP.kept hk).app fun k x hx => ?_
    have hz : k < 1 := (List.getElem?_eq_some_iff.mp hx).1
    rw [show k = 0 by omega] at hx
    cases hx
    exact hc
  · rw [xtw_app, e0]
    exact hD.push hP rfl (hA _ hS.1)
  · rw [List.length_append] at hj ⊢
    simp only [List.length_singleton] at hj ⊢
    rw [show w.length + 1 + j = w.length + (1 + j) by omega, had (1 + j) (by omega), hz]
    omega
theorem xOK.sub (O : xOK D cI cL ad A H0 w H locs cells) (hA : ∀ q, H0.size ≤ q → A q) : ∀ q, va_A (xtw cI cL ad w) H.size q → A q := by
  intro q h
  rcases h with ⟨k, e, h⟩ | h
  · exact O.2.1.2 k (q, e) h
  · exact hA q (Nat.le_trans O.2.2.1.1 h)
theorem xNw.warm {U : State} {w : Cond} (hn : xisNest w = true) (hW : s.WarmedH U.vm) (h : va_Nw w s) : va_Nw w U := by
  cases w with
  | methodLinkNest a i x h0 => exact va_Nw.warmM hW h
  | fieldLinkNest a i b n d h0 => exact va_Nw.warmF hW h
  | _ => cases hn
theorem xNw.tab {w : Cond} (hn : xisNest w = true) : w.onTables = true := by
  cases w with
  | methodLinkNest a i x h0 => rfl
  | fieldLinkNest a i b n d h0 => rfl
  | _ => cases hn
theorem xSt.to {t : Nat} {B : Nat → Prop} {U : State} (h : xSt t A s H0) (hW : s.WarmedH U.vm) (hk : ∀ a : Nat, a < H0.size → ¬ A a → H[a]? = H0[a]?) (hs : ∀ q, B q → A q) : xSt t B U H :=
  ⟨(va_Z.moved hW.alike (h.1.kept hk)).narrow hs, (va_T.moved hW.alike (h.2.1.kept hk)).narrow hs, fun w hw hn => xNw.warm hn hW (h.2.2 w hw hn)⟩
theorem xPre.blind {as : List Value} {sz : Nat} : FrameBlind (xPre D cI cL ad as w sz) := by
  intro a U g mk q
  obtain ⟨q0, q1, qP, qK, qD, ql, qa, qZ, qT, qN⟩ := q
  exact ⟨q0, q1, qP, va_K.moved (u := U) (U := U.calling g mk a) (Vm.Alike.refl U.vm) qK, qD, ql, qa, va_Z.moved (u := U) (U := U.calling g mk a) (Vm.Alike.refl U.vm) qZ, va_T.moved (u := U) (U := U.calling g mk a) (Vm.Alike.refl U.vm) qT, fun w hw hn => va_Nw.same (u := U) (U := U.calling g mk a) (xNw.tab hn) rfl (qN w hw hn)⟩
/-- behind a call, whatever it answers -/
theorem x_call {pc : Nat} {ls : Array Slot} {rest st0 : List Value} {a : Array Value} {A0 A1 : Nat → Prop} {mc ms : Nat} {v : Option Value} {w' : xW} {free : Addr → Prop}
    (hr : va_Run p l e R s m args below meth c H locs cells slots mc ms (F0 m pc ls st0) rest (xPost D cI cL ad A1 v w' a) free) (hS : va_S A0 H0 H locs) (hA : ∀ q, q < H.size → A1 q → A0 q) (hf : ∀ q, free q → A0 q)
    (kk : ∀ (t : State) (H1 : Heap) (locs1 : List Loc), t.heap = H1 → xB D cI cL ad A1 w' t → va_S A0 H0 H1 locs1 → W p l e R s m args below meth c H1 locs1 (cells + mc) (slots + ms) Q (F0 m (pc + 3) ls ((v.map (xtv ad)).toList ++ rest))) : W p l e R s m args below meth c H locs cells slots Q (F0 m pc ls st0) := by
  intro T hT X
  obtain ⟨v', st₀, t, T', L, h0, X', hL, e1, e2, ⟨hv, hB, hz, hk⟩, st⟩ := hr T hT X
  cases hv
  rw [h0] at hz hk
  have hS1 : va_S A0 H0 T'.heap (locs ++ L) := by
    refine ⟨Nat.le_trans hS.1 (by rw [e1]; exact hz), fun q h1 h2 => ?_, fun q hq => ?_⟩
    · rw [e1, hk q (Nat.lt_of_lt_of_le h1 hS.1) (fun z => h2 (hA q (Nat.lt_of_lt_of_le h1 hS.1) z))]
      exact hS.2.1 q h1 h2
    · rcases List.mem_append.mp hq with h | h
      · exact hS.2.2 q h
      · exact hf _ (hL q h)
  obtain ⟨t2, a1, b1⟩ := kk t T'.heap (locs ++ L) e1.symm hB hS1 T' rfl X'
  exact ⟨t2, st t2 a1, b1⟩
end XR
/-- a run of the pure machine is a contract of the method -/
theorem x_met {l : Launch} {D : va_G} {cI cL : ClassId} {z : Nat} {as : List Value} {w w1 : xW} {v1 : Option Value} (hS : xSnd l D cI cL z 0 (xent (xml z) as) [] w v1 w1) (hz : z < 307) (hent : (xent1 as).length ≤ xml z) (ad : Nat → Nat) (sz : Nat) {mc ms : Nat} (h1 : mc + w.length = w1.length) (h2 : ms + xsl w = xsl w1) :
    Met l (xy z) (xTs z) (xRm z mc ms) (xPre D cI cL ad as w sz) (xPost D cI cL ad (va_A (xtw cI cL ad w) sz) v1 w1) mc ms (va_A (xtw cI cL ad w) sz) := by
  refine va_MetF (cc := xb z) (maxL := xml z) (ret := xret z) (x_name hz).2.1 rfl ?_
  intro p e s m args below meth c s₁ B hml hv
  obtain ⟨rfl, hsz, hP, hK, hD0, hle, had, hSt⟩ := hv
  subst hsz
  have hts := atoms_spec (ws := xTs z) B.pre
  have hown : s.vm.findClass (xy z).cls = some m.cls := findClass_of_methodNamed B.named
  rw [lg_entry_eq]
  exact hS.2 (cells := 0) (slots := 0) (N0 := w.length) (S0 := xsl w) ⟨B.exec, B.bytes, B.returns, hml, B.notSynchronized, by rw [← (x_name hz).1]; exact hown, hts, (name_of_methodNamed B.named B.method).1, hz, hK, fun q h => Or.inr h, hSt⟩ ⟨hP, hD0.self, va_S.rf, hle, had, rfl⟩ (xLoc.entry hent) (Nat.zero_add _) h1 (Nat.zero_add _) h2
theorem x_goodIn (k : Nat) {z : Nat} (hz : z < 307) : GoodIn (xTs k) (xTs z) := by
  have good : ∀ w ∈ xtbl, (w.onTables && w.keeps) = true ∨ ∃ ty, w = .arrayClass ty := fun w hw => good_of_word (List.mem_filter.mp hw).2
  intro w hw
  rcases List.mem_cons.mp hw with rfl | hw
  · have h : Cond.code (xy z) (xb z) (xml z) (xret z) ∈ xtbl := xtbl_in (x_code hz) rfl
    exact ⟨List.mem_cons_of_mem _ h, good _ h⟩
  · exact ⟨List.mem_cons_of_mem _ hw, good _ hw⟩
