/-! THE PURE HEAP IN THE MACHINE'S: pure references by ad -/
def xtv (ad : Nat → Nat) (v : Value) : Value := match v with
  | .ref i => .ref (ad i)
  | v => v
def xte (cI cL : ClassId) (ad : Nat → Nat) (c : xC) : va_E := match c with
  | .inl (.inl a) => .inl (cI, a.1, .inl a.2)
  | .inl (.inr a) => .inl (cL, a.1, .inr (.inl a.2))
  | .inr o => .inr (o.1, o.2.map (xtv ad))
def xtw (cI cL : ClassId) (ad : Nat → Nat) (w : xW) : va_W := w.mapIdx (fun i c => (ad i, xte cI cL ad c))
theorem xtw_get {cI cL : ClassId} {ad : Nat → Nat} {w : xW} {i : Nat} {c : xC} (h : w[i]? = some c) : (xtw cI cL ad w)[i]? = some (ad i, xte cI cL ad c) := by
  unfold xtw
  rw [List.getElem?_mapIdx, h]
  rfl
theorem xtw_set {cI cL : ClassId} {ad : Nat → Nat} {w : xW} {i : Nat} {c : xC} : xtw cI cL ad (w.set i c) = (xtw cI cL ad w).set i (ad i, xte cI cL ad c) := by
  apply List.ext_getElem?
  intro j
  unfold xtw
  rw [List.getElem?_mapIdx, List.getElem?_set, List.getElem?_set, List.getElem?_mapIdx]
  by_cases h : i = j
  · subst h
    rw [if_pos rfl, if_pos rfl]
    by_cases hl : i < w.length
    · rw [if_pos hl, if_pos (by simpa using hl)]
      rfl
    · rw [if_neg hl, if_neg (by simpa using hl)]
      rfl
  · rw [if_neg h, if_neg h]
theorem xtw_app {cI cL : ClassId} {ad : Nat → Nat} {w : xW} {c : xC} : xtw cI cL ad (w ++ [c]) = xtw cI cL ad w ++ [(ad w.length, xte cI cL ad c)] := by
  unfold xtw
  rw [List.mapIdx_append]
  simp
theorem xtv_cat {ad : Nat → Nat} (v : Value) : (xtv ad v).category = v.category := by cases v <;> rfl
theorem xtv_cats {ad : Nat → Nat} (vs : List Value) : ((vs.map (xtv ad)).map fun v => v.category) = vs.map fun v => v.category := by
  rw [List.map_map]
  exact List.map_congr_left fun v _ => xtv_cat v
theorem xsl_set {w : xW} {i : Nat} {c c' : xC} (h : w[i]? = some c) (hs : xsz c' = xsz c) : xsl (w.set i c') = xsl w := by
  unfold xsl
  induction w generalizing i with
  | nil => simp at h
  | cons a w ih =>
    cases i with
    | zero =>
      simp at h
      subst h
      simp [hs]
    | succ i =>
      simp at h
      simp only [List.set_cons_succ, List.map_cons, List.sum_cons]
      rw [ih h]
theorem xsl_app {w : xW} {c : xC} : xsl (w ++ [c]) = xsl w + xsz c := by simp [xsl]
/-- locals -/
def xLoc (ad : Nat → Nat) (ls : Array Slot) (n : Nat) (ll : List (Option Value)) : Prop := ls.size = n ∧ lv_wf ls ∧ ∀ (i : Nat) (v : Value), ll[i]? = some (some v) → ls[i]? = some (.val (xtv ad v))
theorem xLoc.get {ad : Nat → Nat} {ls : Array Slot} {n i : Nat} {ll : List (Option Value)} {v : Value} (h : xLoc ad ls n ll) (hi : ll[i]? = some (some v)) : ls[i]? = some (.val (xtv ad v)) := h.2.2 i v hi
/-- the places that hold something, as a list -/
def xasc (ad : Nat → Nat) (ll : List (Option Value)) : List (Nat × Value) := (List.range ll.length).filterMap fun i => match ll[i]? with
  | some (some v) => some (i, xtv ad v)
  | _ => none
theorem xasc_mem {ad : Nat → Nat} {ll : List (Option Value)} {i : Nat} {v : Value} (h : ll[i]? = some (some v)) : (i, xtv ad v) ∈ xasc ad ll := by
  unfold xasc
  rw [List.mem_filterMap]
  exact ⟨i, List.mem_range.mpr (List.getElem?_eq_some_iff.mp h).1, by rw [h]⟩
theorem xasc_of {ad : Nat → Nat} {ll : List (Option Value)} {q : Nat × Value} (h : q ∈ xasc ad ll) : ∃ v, ll[q.1]? = some (some v) ∧ q.2 = xtv ad v := by
  unfold xasc at h
  obtain ⟨i, -, hi⟩ := List.mem_filterMap.mp h
  split at hi
  · rename_i v e
    cases hi
    exact ⟨v, e, rfl⟩
  · cases hi
theorem xLoc.has {ad : Nat → Nat} {ls : Array Slot} {n : Nat} {ll : List (Option Value)} (h : xLoc ad ls n ll) : lv_has ls n (xasc ad ll) := by
  refine ⟨h.1, h.2.1, fun q hq => ?_⟩
  obtain ⟨v, h1, h2⟩ := xasc_of hq
  rw [h2]
  exact h.2.2 _ _ h1
theorem xclr_get {ll : List (Option Value)} {i j : Nat} {v : Value} (h : (xclr ll i)[j]? = some (some v)) : ll[j]? = some (some v) ∧ ¬ (j + 1 = i ∧ v.category = 2) := by
  unfold xclr at h
  split at h
  · exact ⟨h, by omega⟩
  · rename_i i
    split at h
    · rename_i u e
      split at h
      · rename_i hu
        rw [List.getElem?_set] at h
        split at h
        · split at h <;> cases h
        · rename_i hne
          exact ⟨h, by omega⟩
      · rename_i hu
        refine ⟨h, fun q => hu ?_⟩
        have hj : j = i := by omega
        subst hj
        rw [e] at h
        cases h
        exact q.2
    · rename_i hn
      refine ⟨h, fun q => ?_⟩
      have hj : j = i := by omega
      subst hj
      exact hn v h
theorem xLoc.st1 {ad : Nat → Nat} {ls' : Array Slot} {n i : Nat} {ll : List (Option Value)} {v u : Value} (hu : u = xtv ad v) (h : lv_has ls' n ((i, u) :: (xasc ad ll).filter (fun q => !(q.1 == i) && !(q.1 + 1 == i && q.2.category == 2)))) : xLoc ad ls' n (xst1 ll i v) := by
  refine ⟨h.1, h.2.1, fun j x hj => ?_⟩
  unfold xst1 at hj
  rw [List.getElem?_set] at hj
  split at hj
  · rename_i e
    split at hj
    · cases hj
      rw [← hu, ← e]
      exact h.2.2 (i, u) List.mem_cons_self
    · cases hj
  · rename_i e
    obtain ⟨h1, h2⟩ := xclr_get hj
    refine h.2.2 (j, xtv ad x) (List.mem_cons_of_mem _ (List.mem_filter.mpr ⟨xasc_mem h1, ?_⟩))
    have e1 : (j == i) = false := by simpa using fun q => e q.symm
    simp only [e1, Bool.not_false, Bool.true_and, Bool.not_eq_true', Bool.and_eq_false_iff, beq_eq_false_iff_ne, ne_eq]
    rw [xtv_cat]
    by_cases q : j + 1 = i
    · exact Or.inr fun z => h2 ⟨q, z⟩
    · exact Or.inl q
theorem xLoc.st2 {ad : Nat → Nat} {ls' : Array Slot} {n i : Nat} {ll : List (Option Value)} {v u : Value} (hu : u = xtv ad v) (h : lv_has ls' n ((i, u) :: (xasc ad ll).filter (fun q => !(q.1 == i) && (!(q.1 == i + 1) && !(q.1 + 1 == i && q.2.category == 2))))) : xLoc ad ls' n (xst2 ll i v) := by
  refine ⟨h.1, h.2.1, fun j x hj => ?_⟩
  unfold xst2 at hj
  rw [List.getElem?_set] at hj
  split at hj
  · split at hj <;> cases hj
  · rename_i e2
    rw [List.getElem?_set] at hj
    split at hj
    · rename_i e
      split at hj
      · cases hj
        rw [← hu, ← e]
        exact h.2.2 (i, u) List.mem_cons_self
      · cases hj
    · rename_i e
      obtain ⟨h1, h2⟩ := xclr_get hj
      refine h.2.2 (j, xtv ad x) (List.mem_cons_of_mem _ (List.mem_filter.mpr ⟨xasc_mem h1, ?_⟩))
      have e1 : (j == i) = false := by simpa using fun q => e q.symm
      have e3 : (j == i + 1) = false := by simpa using fun q => e2 q.symm
      simp only [e1, e3, Bool.not_false, Bool.true_and, Bool.not_eq_true', Bool.and_eq_false_iff, beq_eq_false_iff_ne, ne_eq]
      rw [xtv_cat]
      by_cases q : j + 1 = i
      · exact Or.inr fun z => h2 ⟨q, z⟩
      · exact Or.inl q
theorem xent1_args {ad : Nat → Nat} : ∀ (vs : List Value) (o i : Nat) (v : Value), (xent1 vs)[i]? = some (some v) → (o + i, xtv ad v) ∈ lv_args o (vs.map (xtv ad))
  | [], _, _, _, h => by simp [xent1] at h
  | u :: vs, o, i, v, h => by
    unfold xent1 at h
    rw [List.map_cons]
    unfold lv_args
    rw [xtv_cat]
    split at h
    · rename_i hc
      rw [if_pos hc]
      match i, h with
      | 0, h =>
        simp at h
        subst h
        exact List.mem_cons_self
      | 1, h => simp at h
      | i + 2, h =>
        simp at h
        have := xent1_args (ad := ad) vs (o + 2) i v h
        rw [show o + 2 + i = o + (i + 2) by omega] at this
        exact List.mem_cons_of_mem _ this
    · rename_i hc
      rw [if_neg hc]
      match i, h with
      | 0, h =>
        simp at h
        subst h
        exact List.mem_cons_self
      | i + 1, h =>
        simp at h
        have := xent1_args (ad := ad) vs (o + 1) i v h
        rw [show o + 1 + i = o + (i + 1) by omega] at this
        exact List.mem_cons_of_mem _ this
theorem xent1_len {ad : Nat → Nat} : ∀ (vs : List Value), (lg_sl (vs.map (xtv ad))).length = (xent1 vs).length
  | [] => rfl
  | v :: vs => by
    have ih := xent1_len (ad := ad) vs
    unfold lg_sl at ih ⊢
    rw [List.map_cons, List.flatMap_cons, List.length_append, ih, xtv_cat]
    show _ = (if v.category = 2 then some v :: none :: xent1 vs else some v :: xent1 vs).length
    by_cases hc : v.category = 2
    · rw [if_pos hc, if_pos hc]
      simp
      omega
    · rw [if_neg hc, if_neg hc]
      simp
      omega
/-- at a method's entry -/
theorem xLoc.entry {ad : Nat → Nat} {vs : List Value} {n : Nat} (h : (xent1 vs).length ≤ n) : xLoc ad (lg_sl (vs.map (xtv ad)) ++ List.replicate (n - (lg_sl (vs.map (xtv ad))).length) Slot.unset).toArray n (xent n vs) := by
  have hl := lv_entry (vs.map (xtv ad)) (n := n) (by rw [xent1_len]; exact h)
  refine ⟨hl.1, hl.2.1, fun i v hi => ?_⟩
  unfold xent at hi
  rw [List.getElem?_append] at hi
  split at hi
  · have := xent1_args (ad := ad) vs 0 i v hi
    rw [Nat.zero_add] at this
    exact hl.2.2 _ this
  · rw [List.getElem?_replicate] at hi
    split at hi <;> cases hi
/-- the pure heap w stands in the machine's heap H -/
def xOK (D : va_G) (cI cL : ClassId) (ad : Nat → Nat) (A : Nat → Prop) (H0 : Heap) (w : xW) (H : Heap) (locs : List Loc) (cells : Nat) : Prop :=
  va_P D xcl (xtw cI cL ad w) H ∧ va_D A (xtw cI cL ad w) ∧ va_S A H0 H locs ∧ w.length < xP ∧ (∀ j, w.length + j < xP → ad (w.length + j) = H.size + j) ∧ H.size = H0.size + cells
abbrev xTys (cI cL : ClassId) : List (ClassId × FieldType) := [(cI, .int), (cL, .long)]
def xisNest : Cond → Bool
  | .methodLinkNest .. => true
  | .fieldLinkNest .. => true
  | _ => false
/-- the row of primes, the words of nest mates -/
def xSt (t : Nat) (A : Nat → Prop) (U : State) (H : Heap) : Prop := va_Z "BernoulliWays" "PRIMES" "[I" (.ref t) A U H ∧ va_T .int t 46 (fun j => .int (xpr j)) A U H ∧ ∀ w ∈ lw_tbl, xisNest w = true → va_Nw w U
def xTs (k : Nat) : List Cond := Cond.code (xy k) (xb k) (xml k) (xret k) :: xtbl
/-- what holds all through a method's run -/
def xCx (p : Program) (s : State) (m : MethodId) (args : Array Value) (meth : Method) (c : Code) (k : Nat) (D : va_G) (cI cL : ClassId) (ad : Nat → Nat) (A : Nat → Prop) : Prop :=
  p.tables.exec = Jvm.exec ∧ c.code = xb k ∧ meth.sig.returnType = xret k ∧ c.maxLocals = xml k ∧ meth.locks = false ∧ s.vm.findClass (xcn.getD (xown k) "") = some m.cls ∧ (∀ w ∈ xTs k, w.before args s = true) ∧ meth.name = (xy k).name ∧ k < 307 ∧ va_K D xcl (xTys cI cL) s ∧ (∀ q, s.heap.size ≤ q → A q) ∧ xSt (ad xP) A s s.heap
/-- behind a method -/
def xB (D : va_G) (cI cL : ClassId) (ad : Nat → Nat) (A : Nat → Prop) (w' : xW) (t : State) : Prop := va_P D xcl (xtw cI cL ad w') t.heap ∧ va_K D xcl (xTys cI cL) t ∧ va_D A (xtw cI cL ad w') ∧ w'.length < xP ∧ ∀ j, w'.length + j < xP → ad (w'.length + j) = t.heap.size + j
def xPost (D : va_G) (cI cL : ClassId) (ad : Nat → Nat) (A : Nat → Prop) (v : Option Value) (w' : xW) : Array Value → State → Outcome → State → Prop := fun _ st oc t => oc = .returned (v.map (xtv ad)) ∧ xB D cI cL ad A w' t ∧ va_F A st t
def xPre (D : va_G) (cI cL : ClassId) (ad : Nat → Nat) (as : List Value) (w : xW) (sz : Nat) : Array Value → State → Prop := va_Pc (as.map (xtv ad)) (fun U => U.heap.size = sz ∧ va_P D xcl (xtw cI cL ad w) U.heap ∧ va_K D xcl (xTys cI cL) U ∧ va_D (fun _ => True) (xtw cI cL ad w) ∧ w.length < xP ∧ (∀ j, w.length + j < xP → ad (w.length + j) = sz + j) ∧ xSt (ad xP) (va_A (xtw cI cL ad w) sz) U U.heap)
abbrev xRm (k mc ms : Nat) : Room := { frames := xfr k, cells := mc, slots := ms, locals := xlo k }
/-- from here the machine comes to this answer and this heap -/
def xSnd (l : Launch) (D : va_G) (cI cL : ClassId) (k pc : Nat) (ll : List (Option Value)) (st : List Value) (w : xW) (v : Option Value) (w' : xW) : Prop :=
  (w.length ≤ w'.length ∧ xsl w ≤ xsl w') ∧ ∀ {p : Program} {e : Env} {s : State} {m : MethodId} {args : Array Value} {below : List Frame} {meth : Method} {c : Code} {A : Nat → Prop} {ad : Nat → Nat} {mc ms cells slots N0 S0 : Nat} {H : Heap} {locs : List Loc} {ls : Array Slot},
    xCx p s m args meth c k D cI cL ad A → xOK D cI cL ad A s.heap w H locs cells → xLoc ad ls (xml k) ll → cells + N0 = w.length → mc + N0 = w'.length → slots + S0 = xsl w → ms + S0 = xsl w' →
    W p l e (xRm k mc ms) s m args below meth c H locs cells slots (MQ below (xPost D cI cL ad A v w') args s mc ms A) (F0 m pc ls (st.map (xtv ad)))
