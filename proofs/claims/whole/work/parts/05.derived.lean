/-! OUT OF THE TABLE FACTS -/
theorem x_lookup {α : Type} {ix : Nat} {q : α} : ∀ {L : List (Nat × α)}, L.lookup ix = some q → (ix, q) ∈ L
  | [], h => by simp at h
  | (a, b) :: L, h => by
    by_cases e : ix = a
    · subst e
      simp at h
      subst h
      exact List.mem_cons_self
    · rw [List.lookup_cons, show (ix == a) = false from by simpa using e] at h
      exact List.mem_cons_of_mem _ (x_lookup h)
theorem x_sAll : ∀ c, c < 15 → xchkS c = true := by
  intro c hc
  match c, hc with
  | 0, _ => exact x_s0
  | 1, _ => exact x_s1
  | 2, _ => exact x_s2
  | 3, _ => exact x_s3
  | 4, _ => exact x_s4
  | 5, _ => exact x_s5
  | 6, _ => exact x_s6
  | 7, _ => exact x_s7
  | 8, _ => exact x_s8
  | 9, _ => exact x_s9
  | 10, _ => exact x_s10
  | 11, _ => exact x_s11
  | 12, _ => exact x_s12
  | 13, _ => exact x_s13
  | 14, _ => exact x_s14
  | c + 15, h => omega
theorem x_siteW {k ix : Nat} {q : Nat × Nat × Nat × Int} (hk : xown k < 15) (h : xsite k ix = some q) : ∀ w ∈ xwords (xcn.getD (xown k) "") ix q, w ∈ lw_tbl := by
  have hc := x_sAll _ hk
  unfold xchkS at hc
  rw [Bool.and_eq_true] at hc
  have hm := x_lookup h
  obtain ⟨i, hi⟩ := List.getElem?_of_mem hm
  have hl : i < (xss.getD (xown k) []).length := (List.getElem?_eq_some_iff.mp hi).1
  have hl2 : i < (xps.getD (xown k) []).length := by
    have := hc.1
    rw [beq_iff_eq] at this
    omega
  have hz : ((xss.getD (xown k) []).zip (xps.getD (xown k) []))[i]? = some ((ix, q), (xps.getD (xown k) [])[i]) := by
    rw [List.getElem?_zip_eq_some]
    exact ⟨hi, List.getElem?_eq_getElem hl2⟩
  have hd := List.all_eq_true.mp hc.2 _ (List.mem_of_getElem? hz)
  have hd := of_decide_eq_true hd
  intro w hw
  have h1 : some w ∈ (xwords (xcn.getD (xown k) "") ix q).map some := List.mem_map.mpr ⟨w, hw, rfl⟩
  rw [← hd] at h1
  obtain ⟨j, -, hj⟩ := List.mem_map.mp h1
  exact List.mem_of_getElem? hj
theorem x_mAll : ∀ k, k < 307 → xchkM k = true := by
  intro k hk
  by_cases h0 : k < 100
  · exact List.all_eq_true.mp x_m0 k (List.mem_range.mpr h0)
  · by_cases h1 : k < 200
    · exact List.all_eq_true.mp x_m1 k (List.mem_map.mpr ⟨k - 100, List.mem_range.mpr (by omega), by omega⟩)
    · exact List.all_eq_true.mp x_m2 k (List.mem_map.mpr ⟨k - 200, List.mem_range.mpr (by omega), by omega⟩)
theorem x_bAll : xbs = xws.map (fun j => xcodeB lw_tbl[j]?) := by
  unfold xbs xws
  simp only [List.map_append]
  rw [← x_b0, ← x_b1, ← x_b2, ← x_b3, ← x_b4, ← x_b5, ← x_b6, ← x_b7]
theorem x_wlen : xws.length = 307 := by decide +kernel
theorem x_code {k : Nat} (hk : k < 307) : Cond.code (xy k) (xb k) (xml k) (xret k) ∈ lw_tbl := by
  have h := x_mAll k hk
  unfold xchkM at h
  simp only [Bool.and_eq_true] at h
  have h1 := h.1.1.1.1.1
  have hb : xb k = xcodeB lw_tbl[xws.getD k 0]? := by
    unfold xb
    rw [x_bAll]
    simp [List.getD_eq_getElem?_getD, List.getElem?_map, x_wlen, hk]
  unfold xcodeW at h1
  split at h1
  · rename_i w y' b' m' r' e
    simp only [Bool.and_eq_true, decide_eq_true_eq] at h1
    obtain ⟨⟨rfl, rfl⟩, rfl⟩ := h1
    rw [e] at hb
    rw [show xb k = b' from hb]
    exact List.mem_of_getElem? e
  · cases h1
theorem x_name {k : Nat} (hk : k < 307) : (xy k).cls = xcn.getD (xown k) "" ∧ plainFor (xy k) = true ∧ ((xy k).cls ≠ "java/lang/invoke/MethodHandle" ∧ (xy k).cls ≠ "java/lang/invoke/VarHandle" ∧ (parseMethodDescriptor (xy k).desc).map (fun d => d.parameters.length) = some (xna k)) := by
  have h := x_mAll k hk
  unfold xchkM at h
  simp only [Bool.and_eq_true, decide_eq_true_eq] at h
  exact ⟨h.1.1.1.1.2, h.1.1.1.2, h.1.1.2, h.1.2, h.2⟩
theorem x_ownLt : ∀ k, k < 307 → xown k < 15 := by
  intro k hk
  have h : (List.range 307).all (fun k => decide (xown k < 15)) = true := by decide +kernel
  simpa using List.all_eq_true.mp h k (List.mem_range.mpr hk)
def xFc (ci : Nat) : u_T := fun k => (xfs.getD ci []).getD k ("", "", "", false)
def xNc (ci : Nat) : Nat := (xfs.getD ci []).length
/-- a class that has objects -/
def xobj (ci : Nat) : Bool := !(ci == 11 || ci == 13 || ci == 14)
theorem x_cl : ∀ ci, ci < 15 → xobj ci = true → xcl[ci]? = some (xcn.getD ci "", xFc ci, xNc ci) := by
  intro c hc ho
  match c, hc, ho with
  | 0, _, _ => rfl
  | 1, _, _ => rfl
  | 2, _, _ => rfl
  | 3, _, _ => rfl
  | 4, _, _ => rfl
  | 5, _, _ => rfl
  | 6, _, _ => rfl
  | 7, _, _ => rfl
  | 8, _, _ => rfl
  | 9, _, _ => rfl
  | 10, _, _ => rfl
  | 11, _, h => exact absurd h (by decide)
  | 12, _, _ => rfl
  | 13, _, h => exact absurd h (by decide)
  | 14, _, h => exact absurd h (by decide)
  | c + 15, h, _ => omega
def xobjQ (q : Nat × Nat × Nat × Int) : Bool := match q with
  | (0, z, 0, _) => xobj (xown z)
  | (8, ci, _, _) => xobj ci
  | _ => true
theorem x_objA : ∀ c, c < 15 → (xss.getD c []).all (fun q => xobjQ q.2) = true := by
  have h : (List.range 15).all (fun c => (xss.getD c []).all (fun q => xobjQ q.2)) = true := by decide +kernel
  exact fun c hc => List.all_eq_true.mp h c (List.mem_range.mpr hc)
theorem x_objS {k ix : Nat} {q : Nat × Nat × Nat × Int} (hk : xown k < 15) (h : xsite k ix = some q) : xobjQ q = true :=
  List.all_eq_true.mp (x_objA _ hk) (ix, q) (x_lookup h)
theorem x_objN {ci j : Nat} (h : j < xNc ci) : xobj ci = true := by
  by_cases a : ci = 11
  · subst a
    exact absurd h (by rw [show xNc 11 = 0 from rfl]; omega)
  · by_cases b : ci = 13
    · subst b
      exact absurd h (by rw [show xNc 13 = 0 from rfl]; omega)
    · by_cases c : ci = 14
      · subst c
        exact absurd h (by rw [show xNc 14 = 0 from rfl]; omega)
      · unfold xobj
        rw [show (ci == 11) = false by simpa using a, show (ci == 13) = false by simpa using b, show (ci == 14) = false by simpa using c]
        rfl
theorem x_clOf {ci : Nat} {r : vw_C} (h : xcl[ci]? = some r) : ci < 15 := by
  have := (List.getElem?_eq_some_iff.mp h).1
  exact this
/-- what a class's check says: the words of its fields, their types, that their names differ, what they are at first -/
theorem x_cls {ci : Nat} (h : ci < 15) : (∀ w ∈ u_ws (xcn.getD ci "") (xFc ci) (xNc ci), w ∈ lw_tbl) ∧ (xfs.getD ci []).map (fun f => parseFieldDescriptor f.2.2.1) = (xts.getD ci []).map some ∧ (xts.getD ci []).map defaultValue = xvs.getD ci [] ∧ (∀ a, a < xNc ci → ∀ b, b < xNc ci → a ≠ b → (xFc ci a).2.1 ≠ (xFc ci b).2.1) := by
  have h := List.all_eq_true.mp x_c ci (List.mem_range.mpr h)
  unfold xchkC at h
  simp only [Bool.and_eq_true, decide_eq_true_eq] at h
  obtain ⟨⟨⟨⟨h1, h2⟩, h3⟩, h4⟩, -⟩ := h
  refine ⟨fun w hw => ?_, h2, h3, fun a ha b hb hab => ?_⟩
  · have q : some w ∈ (u_ws (xcn.getD ci "") (fun k => (xfs.getD ci []).getD k ("", "", "", false)) (xfs.getD ci []).length).map some := List.mem_map.mpr ⟨w, hw, rfl⟩
    rw [← h1] at q
    obtain ⟨j, -, hj⟩ := List.mem_map.mp q
    exact List.mem_of_getElem? hj
  · have q := List.all_eq_true.mp (List.all_eq_true.mp h4 a (List.mem_range.mpr ha)) b (List.mem_range.mpr hb)
    simp only [Bool.or_eq_true, beq_iff_eq, decide_eq_true_eq] at q
    exact q.resolve_left hab
theorem x_good_lays {C : String} {T : u_T} {N : Nat} : ∀ w ∈ u_ws C T N, goodWord w = true := by
  intro w hw
  obtain ⟨j, -, rfl⟩ := List.mem_map.mp hw
  unfold u_lay
  split <;> rfl
theorem xtbl_in {w : Cond} (h : w ∈ lw_tbl) (hg : goodWord w = true) : w ∈ xtbl := List.mem_filter.mpr ⟨h, hg⟩
theorem x_typ {ci : Nat} (h : ci < 15) {k : Nat} {ty : FieldType} (ht : (xts.getD ci [])[k]? = some ty) : parseFieldDescriptor (xFc ci k).2.2.1 = some ty := by
  have h2 := (x_cls h).2.1
  have e : ((xfs.getD ci []).map (fun f => parseFieldDescriptor f.2.2.1))[k]? = some (some ty) := by rw [h2, List.getElem?_map, ht]; rfl
  rw [List.getElem?_map] at e
  unfold xFc
  cases hf : (xfs.getD ci [])[k]? with
  | none => rw [hf] at e; cases e
  | some f =>
    rw [hf] at e
    rw [List.getD_eq_getElem?_getD, hf]
    exact Option.some.inj e
theorem x_tlen {ci : Nat} (h : ci < 15) : (xts.getD ci []).length = xNc ci := by
  have h2 := congrArg List.length (x_cls h).2.1
  simp only [List.length_map] at h2
  exact h2.symm
theorem x_vlen {ci : Nat} (h : ci < 15) : (xvs.getD ci []).length = xNc ci := by
  have h2 := congrArg List.length (x_cls h).2.2.1
  simp only [List.length_map] at h2
  exact h2.symm.trans (x_tlen h)
/-- the type of a field -/
def xTy (ci k : Nat) : FieldType := (xts.getD ci []).getD k .int
theorem x_tyOk {ci : Nat} (h : ci < 15) : ∀ k, k < xNc ci → parseFieldDescriptor (xFc ci k).2.2.1 = some (xTy ci k) := by
  intro k hk
  have hl : k < (xts.getD ci []).length := by rw [x_tlen h]; exact hk
  refine x_typ h ?_
  unfold xTy
  generalize xts.getD ci [] = L at hl ⊢
  simp [List.getD_eq_getElem?_getD, hl]
