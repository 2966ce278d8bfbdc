/-! LOCALS THAT NOBODY READS: more of them change nothing -/
def xle : List (Option Value) → List (Option Value) → Prop
  | [], [] => True
  | none :: a, _ :: b => xle a b
  | some v :: a, u :: b => u = some v ∧ xle a b
  | _, _ => False
theorem xle_0 : xle [] [] := trivial
theorem xle_n {a b : List (Option Value)} {o : Option Value} (h : xle a b) : xle (none :: a) (o :: b) := h
theorem xle_s {a b : List (Option Value)} {v : Value} (h : xle a b) : xle (some v :: a) (some v :: b) := ⟨rfl, h⟩
theorem xle_rf : ∀ a : List (Option Value), xle a a
  | [] => trivial
  | none :: a => xle_rf a
  | some _ :: a => ⟨rfl, xle_rf a⟩
theorem xle_get : ∀ {a b : List (Option Value)} {i : Nat} {v : Value}, xle a b → a[i]? = some (some v) → b[i]? = some (some v)
  | [], [], _, _, _, h => by simp at h
  | none :: a, u :: b, 0, v, _, h => by simp at h
  | none :: a, u :: b, i + 1, v, hl, h => by
    simp at h ⊢
    exact xle_get (a := a) (b := b) hl h
  | some x :: a, u :: b, 0, v, hl, h => by
    simp at h
    subst h
    simp [hl.1]
  | some x :: a, u :: b, i + 1, v, hl, h => by
    simp at h ⊢
    exact xle_get hl.2 h
  | none :: _, [], _, _, hl, _ => hl.elim
  | some _ :: _, [], _, _, hl, _ => hl.elim
theorem xle_len : ∀ {a b : List (Option Value)}, xle a b → a.length = b.length
  | [], [], _ => rfl
  | none :: a, _ :: b, h => by simp [xle_len (a := a) (b := b) h]
  | some _ :: a, _ :: b, h => by simp [xle_len h.2]
  | none :: _, [], h => h.elim
  | some _ :: _, [], h => h.elim
theorem xle_of : ∀ {a b : List (Option Value)}, a.length = b.length → (∀ (i : Nat) (v : Value), a[i]? = some (some v) → b[i]? = some (some v)) → xle a b
  | [], [], _, _ => trivial
  | none :: a, u :: b, hl, h => xle_of (a := a) (b := b) (by simpa using hl) (fun i v q => by simpa using h (i + 1) v (by simpa using q))
  | some x :: a, u :: b, hl, h => ⟨by simpa using h 0 x (by simp), xle_of (by simpa using hl) (fun i v q => by simpa using h (i + 1) v (by simpa using q))⟩
  | [], _ :: _, hl, _ => by simp at hl
  | none :: _, [], hl, _ => by simp at hl
  | some _ :: _, [], hl, _ => by simp at hl
theorem xle_set {a b : List (Option Value)} (h : xle a b) (i : Nat) (o : Option Value) : xle (a.set i o) (b.set i o) := by
  refine xle_of (by simp [xle_len h]) fun j v q => ?_
  rw [List.getElem?_set] at q ⊢
  rw [← xle_len h]
  split at q
  · rename_i e
    rw [if_pos e]
    exact q
  · rename_i e
    rw [if_neg e]
    exact xle_get h q
theorem xle_setn {a b : List (Option Value)} (h : xle a b) (i : Nat) : xle (a.set i none) b := by
  refine xle_of (by simp [xle_len h]) fun j v q => ?_
  rw [List.getElem?_set] at q
  split at q
  · split at q <;> cases q
  · exact xle_get h q
theorem xle_clr {a b : List (Option Value)} (h : xle a b) (i : Nat) : xle (xclr a i) (xclr b i) := by
  refine xle_of ?_ fun j v q => ?_
  · have hl := xle_len h
    have hh : ∀ c : List (Option Value), (xclr c i).length = c.length := by
      intro c
      unfold xclr
      split
      · rfl
      · split
        · split <;> simp
        · rfl
    rw [hh, hh, hl]
  · obtain ⟨h1, h2⟩ := xclr_get q
    have h3 := xle_get h h1
    unfold xclr
    split
    · exact h3
    · rename_i i
      split
      · rename_i u e
        split
        · rename_i hu
          rw [List.getElem?_set]
          by_cases hj : i = j
          · subst hj
            rw [e] at h3
            cases h3
            exact absurd ⟨rfl, hu⟩ h2
          · rw [if_neg hj]
            exact h3
        · exact h3
      · exact h3
def xMo (F G : xK) : Prop := ∀ (k pc : Nat) (l l' : List (Option Value)) (st : List Value) (w : xW) (r : Option Value × xW), xle l l' → F k pc l st w = some r → G k pc l' st w = some r
section MO
variable {F G : xK} {k pc : Nat} {l l' : List (Option Value)} {st : List Value} {w : xW} {r : Option Value × xW}
theorem m_jump (hF : xMo F G) {off : Int} (hl : xle l l') (h : xjump F k pc off l st w = some r) : xjump G k pc off l' st w = some r := by
  unfold xjump at h ⊢
  split at h
  · rename_i c
    rw [if_pos c]
    exact hF _ _ _ _ _ _ _ hl h
  · cases h
theorem m_br (hF : xMo F G) {off : Int} {b : Bool} (hl : xle l l') (h : xbr F b k pc off l st w = some r) : xbr G b k pc off l' st w = some r := by
  unfold xbr at h ⊢
  split at h
  · rename_i c
    rw [if_pos c]
    split at h
    · rename_i c2
      rw [if_pos c2]
      exact hF _ _ _ _ _ _ _ hl h
    · rename_i c2
      rw [if_neg c2]
      exact hF _ _ _ _ _ _ _ hl h
  · cases h
theorem m_go (hF : xMo F G) {z : Nat} {as rest : List Value} (hl : xle l l') (h : xgo F k pc l w z as rest = some r) : xgo G k pc l' w z as rest = some r := by
  unfold xgo at h ⊢
  split at h
  · rename_i c
    rw [if_pos c]
    unfold xaft at h ⊢
    split at h
    · rename_i v w1 e
      rw [hF _ _ _ _ _ _ _ (xle_rf _) e]
      exact hF _ _ _ _ _ _ _ hl h
    · cases h
  · cases h
theorem m_invV (hF : xMo F G) {ix : Nat} (hl : xle l l') (h : xinvV F k pc ix l st w = some r) : xinvV G k pc ix l' st w = some r := by
  unfold xinvV at h ⊢
  split at h
  · rename_i e
    split at h
    · rename_i c
      split at h
      · rename_i e2
        split at h
        · rename_i e3
          split at h
          · rename_i c2
            first | exact m_go hF hl h | (simp only [e, if_pos c, e2, e3, if_pos c2]; exact m_go hF hl h)
          · cases h
        · cases h
      · cases h
    · cases h
  · cases h
theorem m_invS (hF : xMo F G) {ix : Nat} (hl : xle l l') (h : xinvS F k pc ix l st w = some r) : xinvS G k pc ix l' st w = some r := by
  unfold xinvS at h ⊢
  split at h
  · rename_i e
    split at h
    · rename_i c
      first | exact m_go hF hl h | (simp only [e, if_pos c]; exact m_go hF hl h)
    · cases h
  · rename_i e
    split at h
    · rename_i c
      first | exact m_go hF hl h | (simp only [e, if_pos c]; exact m_go hF hl h)
    · cases h
  · rename_i e
    split at h
    · split at h
      · cases h
      · rename_i c
        split at h
        · rename_i e1 e2
          split at h
          · rename_i c2
            first | exact hF _ _ _ _ _ _ _ hl h | (simp only [e, if_neg c, e1, e2, if_pos c2]; exact hF _ _ _ _ _ _ _ hl h)
          · cases h
        · rename_i e1 e2
          split at h
          · rename_i c2
            first | exact hF _ _ _ _ _ _ _ hl h | (simp only [e, if_neg c, e1, e2, if_pos c2]; exact hF _ _ _ _ _ _ _ hl h)
          · cases h
        · cases h
    · cases h
  · cases h
theorem m_invI (hF : xMo F G) {ix : Nat} (hl : xle l l') (h : xinvI F k pc ix l st w = some r) : xinvI G k pc ix l' st w = some r := by
  unfold xinvI at h ⊢
  split at h
  · rename_i e
    split at h
    · rename_i c
      split at h
      · rename_i e2
        first | exact m_go hF hl h | (simp only [e, if_pos c, e2]; exact m_go hF hl h)
      · cases h
    · cases h
  · rename_i e
    split at h
    · rename_i c
      split at h
      · rename_i e2
        first | exact m_go hF hl h | (simp only [e, if_pos c, e2]; exact m_go hF hl h)
      · cases h
    · cases h
  · rename_i e
    split at h
    · split at h
      · rename_i c
        first | exact hF _ _ _ _ _ _ _ hl h | (simp only [e, if_pos c]; exact hF _ _ _ _ _ _ _ hl h)
      · cases h
    · cases h
  · cases h
theorem m_getf (hF : xMo F G) {ix : Nat} (hl : xle l l') (h : xgetf F k pc ix l st w = some r) : xgetf G k pc ix l' st w = some r := by
  unfold xgetf at h ⊢
  split at h
  · rename_i e
    split at h
    · rename_i e1
      split at h
      · rename_i c
        split at h
        · rename_i e2
          first | exact hF _ _ _ _ _ _ _ hl h | (simp only [e, e1, if_pos c, e2]; exact hF _ _ _ _ _ _ _ hl h)
        · cases h
      · cases h
    · cases h
  · cases h
theorem m_putf (hF : xMo F G) {ix : Nat} (hl : xle l l') (h : xputf F k pc ix l st w = some r) : xputf G k pc ix l' st w = some r := by
  unfold xputf at h ⊢
  split at h
  · rename_i e
    split at h
    · rename_i e1
      split at h
      · rename_i c
        split at h
        · rename_i e2 e3
          split at h
          · rename_i c2
            first | exact hF _ _ _ _ _ _ _ hl h | (simp only [e, e1, if_pos c, e2, e3, if_pos c2]; exact hF _ _ _ _ _ _ _ hl h)
          · cases h
        · cases h
      · cases h
    · cases h
  · cases h
theorem m_ald (hF : xMo F G) (hl : xle l l') (h : xald F k pc l st w = some r) : xald G k pc l' st w = some r := by
  unfold xald at h ⊢
  split at h
  · split at h
    · rename_i e
      split at h
      · cases h
      · rename_i c
        first | exact hF _ _ _ _ _ _ _ hl h | (simp only [e, if_neg c]; exact hF _ _ _ _ _ _ _ hl h)
    · cases h
    · rename_i e
      split at h
      · rename_i c0
        split at h
        · cases h
        · rename_i c
          first | exact hF _ _ _ _ _ _ _ hl h | (simp only [e, if_pos c0, if_neg c]; exact hF _ _ _ _ _ _ _ hl h)
      · cases h
  · cases h
theorem m_alen (hF : xMo F G) (hl : xle l l') (h : xalen F k pc l st w = some r) : xalen G k pc l' st w = some r := by
  unfold xalen at h ⊢
  split at h
  · split at h
    · rename_i e
      first | exact hF _ _ _ _ _ _ _ hl h | (simp only [e]; exact hF _ _ _ _ _ _ _ hl h)
    · rename_i e
      first | exact hF _ _ _ _ _ _ _ hl h | (simp only [e]; exact hF _ _ _ _ _ _ _ hl h)
    · cases h
    · rename_i e
      split at h
      · rename_i c0
        first | exact hF _ _ _ _ _ _ _ hl h | (simp only [e, if_pos c0]; exact hF _ _ _ _ _ _ _ hl h)
      · cases h
  · cases h
theorem m_lald (hF : xMo F G) (hl : xle l l') (h : xlald F k pc l st w = some r) : xlald G k pc l' st w = some r := by
  unfold xlald at h ⊢
  split at h
  · split at h
    · rename_i e
      split at h
      · cases h
      · rename_i c
        first | exact hF _ _ _ _ _ _ _ hl h | (simp only [e, if_neg c]; exact hF _ _ _ _ _ _ _ hl h)
    · cases h
  · cases h
theorem m_iast (hF : xMo F G) (hl : xle l l') (h : xiast F k pc l st w = some r) : xiast G k pc l' st w = some r := by
  unfold xiast at h ⊢
  split at h
  · split at h
    · rename_i e
      split at h
      · cases h
      · rename_i c
        first | exact hF _ _ _ _ _ _ _ hl h | (simp only [e, if_neg c]; exact hF _ _ _ _ _ _ _ hl h)
    · cases h
  · cases h
theorem m_last (hF : xMo F G) (hl : xle l l') (h : xlast F k pc l st w = some r) : xlast G k pc l' st w = some r := by
  unfold xlast at h ⊢
  split at h
  · split at h
    · rename_i e
      split at h
      · cases h
      · rename_i c
        first | exact hF _ _ _ _ _ _ _ hl h | (simp only [e, if_neg c]; exact hF _ _ _ _ _ _ _ hl h)
    · cases h
  · cases h
theorem m_newa (hF : xMo F G) {t : ArrayType} (hl : xle l l') (h : xnewa F k pc t l st w = some r) : xnewa G k pc t l' st w = some r := by
  unfold xnewa at h ⊢
  split at h
  · split at h
    · cases h
    · rename_i c
      simp only [if_neg c]
      split at h
      · exact hF _ _ _ _ _ _ _ hl h
      · exact hF _ _ _ _ _ _ _ hl h
      · cases h
  · cases h
theorem m_new (hF : xMo F G) {ix : Nat} (hl : xle l l') (h : xnew F k pc ix l st w = some r) : xnew G k pc ix l' st w = some r := by
  unfold xnew at h ⊢
  split at h
  · rename_i e
    split at h
    · cases h
    · rename_i c
      first | exact hF _ _ _ _ _ _ _ hl h | (simp only [e, if_neg c]; exact hF _ _ _ _ _ _ _ hl h)
  · cases h
theorem m_gets (hF : xMo F G) {ix : Nat} (hl : xle l l') (h : xgets F k pc ix l st w = some r) : xgets G k pc ix l' st w = some r := by
  unfold xgets at h ⊢
  split at h
  · rename_i e
    first | exact hF _ _ _ _ _ _ _ hl h | (simp only [e]; exact hF _ _ _ _ _ _ _ hl h)
  · rename_i e
    first | exact hF _ _ _ _ _ _ _ hl h | (simp only [e]; exact hF _ _ _ _ _ _ _ hl h)
  · cases h
theorem m_ild (hF : xMo F G) {i len : Nat} (hl : xle l l') (h : xild F k pc i len l st w = some r) : xild G k pc i len l' st w = some r := by
  unfold xild at h ⊢
  split at h
  · rename_i e
    first | exact hF _ _ _ _ _ _ _ hl h | (simp only [xle_get hl e]; exact hF _ _ _ _ _ _ _ hl h)
  · cases h
theorem m_lld (hF : xMo F G) {i len : Nat} (hl : xle l l') (h : xlld F k pc i len l st w = some r) : xlld G k pc i len l' st w = some r := by
  unfold xlld at h ⊢
  split at h
  · rename_i e
    first | exact hF _ _ _ _ _ _ _ hl h | (simp only [xle_get hl e]; exact hF _ _ _ _ _ _ _ hl h)
  · cases h
theorem m_aldr (hF : xMo F G) {i len : Nat} (hl : xle l l') (h : xaldr F k pc i len l st w = some r) : xaldr G k pc i len l' st w = some r := by
  unfold xaldr at h ⊢
  split at h
  · rename_i e
    first | exact hF _ _ _ _ _ _ _ hl h | (simp only [xle_get hl e]; exact hF _ _ _ _ _ _ _ hl h)
  · cases h
theorem m_is (hF : xMo F G) {i len : Nat} (hl : xle l l') (h : xis F k pc i len l st w = some r) : xis G k pc i len l' st w = some r := by
  unfold xis at h ⊢
  split at h
  · split at h
    · rename_i c
      first | exact hF _ _ _ _ _ _ _ (xle_set (xle_clr hl _) _ _) h | (simp only [if_pos c]; exact hF _ _ _ _ _ _ _ (xle_set (xle_clr hl _) _ _) h)
    · cases h
  · cases h
theorem m_as (hF : xMo F G) {i len : Nat} (hl : xle l l') (h : xas F k pc i len l st w = some r) : xas G k pc i len l' st w = some r := by
  unfold xas at h ⊢
  split at h
  · split at h
    · rename_i c
      first | exact hF _ _ _ _ _ _ _ (xle_set (xle_clr hl _) _ _) h | (simp only [if_pos c]; exact hF _ _ _ _ _ _ _ (xle_set (xle_clr hl _) _ _) h)
    · cases h
  · cases h
theorem m_ls (hF : xMo F G) {i len : Nat} (hl : xle l l') (h : xls F k pc i len l st w = some r) : xls G k pc i len l' st w = some r := by
  unfold xls at h ⊢
  split at h
  · split at h
    · rename_i c
      first | exact hF _ _ _ _ _ _ _ (xle_set (xle_set (xle_clr hl _) _ _) _ _) h | (simp only [if_pos c]; exact hF _ _ _ _ _ _ _ (xle_set (xle_set (xle_clr hl _) _ _) _ _) h)
    · cases h
  · cases h
theorem m_inc (hF : xMo F G) {i : Nat} {d : Int} (hl : xle l l') (h : xinc F k pc i d l st w = some r) : xinc G k pc i d l' st w = some r := by
  unfold xinc at h ⊢
  split at h
  · rename_i e
    split at h
    · rename_i c
      first | exact hF _ _ _ _ _ _ _ (xle_set (xle_clr hl _) _ _) h | (simp only [xle_get hl e, if_pos c]; exact hF _ _ _ _ _ _ _ (xle_set (xle_clr hl _) _ _) h)
    · cases h
  · cases h
theorem m_i2 (hF : xMo F G) {f : Int32 → Int32 → Int32} (hl : xle l l') (h : xi2 F f k pc l st w = some r) : xi2 G f k pc l' st w = some r := by
  unfold xi2 at h ⊢
  split at h
  · exact hF _ _ _ _ _ _ _ hl h
  · cases h
theorem m_l2 (hF : xMo F G) {f : Int64 → Int64 → Int64} (hl : xle l l') (h : xl2 F f k pc l st w = some r) : xl2 G f k pc l' st w = some r := by
  unfold xl2 at h ⊢
  split at h
  · exact hF _ _ _ _ _ _ _ hl h
  · cases h
theorem m_lsh (hF : xMo F G) {f : Int64 → Int64 → Int64} (hl : xle l l') (h : xlsh F f k pc l st w = some r) : xlsh G f k pc l' st w = some r := by
  unfold xlsh at h ⊢
  split at h
  · exact hF _ _ _ _ _ _ _ hl h
  · cases h
theorem m_id (hF : xMo F G) {f : Int32 → Int32 → Int32} (hl : xle l l') (h : xid F f k pc l st w = some r) : xid G f k pc l' st w = some r := by
  unfold xid at h ⊢
  split at h
  · split at h
    · cases h
    · rename_i c
      first | exact hF _ _ _ _ _ _ _ hl h | (simp only [if_neg c]; exact hF _ _ _ _ _ _ _ hl h)
  · cases h
theorem m_ld (hF : xMo F G) {f : Int64 → Int64 → Int64} (hl : xle l l') (h : xld F f k pc l st w = some r) : xld G f k pc l' st w = some r := by
  unfold xld at h ⊢
  split at h
  · split at h
    · cases h
    · rename_i c
      first | exact hF _ _ _ _ _ _ _ hl h | (simp only [if_neg c]; exact hF _ _ _ _ _ _ _ hl h)
  · cases h
theorem m_ins (hF : xMo F G) {i : Instr} {len : Nat} (hl : xle l l') (h : xins F k pc l st w i len = some r) : xins G k pc l' st w i len = some r := by
  cases i with
  | iconst n =>
    simp only [xins] at h ⊢
    by_cases hn : len = 1
    · rw [if_pos hn] at h ⊢
      exact hF _ _ _ _ _ _ _ hl h
    · rw [if_neg hn] at h
      cases h
  | bipush n =>
    simp only [xins] at h ⊢
    by_cases hn : len = 2
    · rw [if_pos hn] at h ⊢
      exact hF _ _ _ _ _ _ _ hl h
    · rw [if_neg hn] at h
      cases h
  | sipush n =>
    simp only [xins] at h ⊢
    by_cases hn : len = 3
    · rw [if_pos hn] at h ⊢
      exact hF _ _ _ _ _ _ _ hl h
    · rw [if_neg hn] at h
      cases h
  | lconst n =>
    simp only [xins] at h ⊢
    by_cases hn : len = 1
    · rw [if_pos hn] at h ⊢
      exact hF _ _ _ _ _ _ _ hl h
    · rw [if_neg hn] at h
      cases h
  | ldc ix =>
    simp only [xins] at h ⊢
    by_cases hn : len = 2
    · rw [if_pos hn] at h ⊢
      split at h
      · rename_i e
        first | exact hF _ _ _ _ _ _ _ hl h | (simp only [e]; exact hF _ _ _ _ _ _ _ hl h)
      · cases h
    · rw [if_neg hn] at h
      cases h
  | ldc_w ix =>
    simp only [xins] at h ⊢
    by_cases hn : len = 3
    · rw [if_pos hn] at h ⊢
      split at h
      · rename_i e
        first | exact hF _ _ _ _ _ _ _ hl h | (simp only [e]; exact hF _ _ _ _ _ _ _ hl h)
      · cases h
    · rw [if_neg hn] at h
      cases h
  | ldc2_w ix =>
    simp only [xins] at h ⊢
    by_cases hn : len = 3
    · rw [if_pos hn] at h ⊢
      split at h
      · rename_i e
        first | exact hF _ _ _ _ _ _ _ hl h | (simp only [e]; exact hF _ _ _ _ _ _ _ hl h)
      · cases h
    · rw [if_neg hn] at h
      cases h
  | iload_n n =>
    simp only [xins] at h ⊢
    by_cases hn : len = 1
    · rw [if_pos hn] at h ⊢
      exact m_ild hF hl h
    · rw [if_neg hn] at h
      cases h
  | iload n =>
    simp only [xins] at h ⊢
    by_cases hn : len = 2
    · rw [if_pos hn] at h ⊢
      exact m_ild hF hl h
    · rw [if_neg hn] at h
      cases h
  | lload_n n =>
    simp only [xins] at h ⊢
    by_cases hn : len = 1
    · rw [if_pos hn] at h ⊢
      exact m_lld hF hl h
    · rw [if_neg hn] at h
      cases h
  | lload n =>
    simp only [xins] at h ⊢
    by_cases hn : len = 2
    · rw [if_pos hn] at h ⊢
      exact m_lld hF hl h
    · rw [if_neg hn] at h
      cases h
  | aload_n n =>
    simp only [xins] at h ⊢
    by_cases hn : len = 1
    · rw [if_pos hn] at h ⊢
      exact m_aldr hF hl h
    · rw [if_neg hn] at h
      cases h
  | aload n =>
    simp only [xins] at h ⊢
    by_cases hn : len = 2
    · rw [if_pos hn] at h ⊢
      exact m_aldr hF hl h
    · rw [if_neg hn] at h
      cases h
  | istore_n n =>
    simp only [xins] at h ⊢
    by_cases hn : len = 1
    · rw [if_pos hn] at h ⊢
      exact m_is hF hl h
    · rw [if_neg hn] at h
      cases h
  | istore n =>
    simp only [xins] at h ⊢
    by_cases hn : len = 2
    · rw [if_pos hn] at h ⊢
      exact m_is hF hl h
    · rw [if_neg hn] at h
      cases h
  | lstore_n n =>
    simp only [xins] at h ⊢
    by_cases hn : len = 1
    · rw [if_pos hn] at h ⊢
      exact m_ls hF hl h
    · rw [if_neg hn] at h
      cases h
  | lstore n =>
    simp only [xins] at h ⊢
    by_cases hn : len = 2
    · rw [if_pos hn] at h ⊢
      exact m_ls hF hl h
    · rw [if_neg hn] at h
      cases h
  | astore_n n =>
    simp only [xins] at h ⊢
    by_cases hn : len = 1
    · rw [if_pos hn] at h ⊢
      exact m_as hF hl h
    · rw [if_neg hn] at h
      cases h
  | astore n =>
    simp only [xins] at h ⊢
    by_cases hn : len = 2
    · rw [if_pos hn] at h ⊢
      exact m_as hF hl h
    · rw [if_neg hn] at h
      cases h
  | iinc n d =>
    simp only [xins] at h ⊢
    by_cases hn : len = 3
    · rw [if_pos hn] at h ⊢
      exact m_inc hF hl h
    · rw [if_neg hn] at h
      cases h
  | iadd =>
    simp only [xins] at h ⊢
    by_cases hn : len = 1
    · rw [if_pos hn] at h ⊢
      exact m_i2 hF hl h
    · rw [if_neg hn] at h
      cases h
  | isub =>
    simp only [xins] at h ⊢
    by_cases hn : len = 1
    · rw [if_pos hn] at h ⊢
      exact m_i2 hF hl h
    · rw [if_neg hn] at h
      cases h
  | imul =>
    simp only [xins] at h ⊢
    by_cases hn : len = 1
    · rw [if_pos hn] at h ⊢
      exact m_i2 hF hl h
    · rw [if_neg hn] at h
      cases h
  | iand =>
    simp only [xins] at h ⊢
    by_cases hn : len = 1
    · rw [if_pos hn] at h ⊢
      exact m_i2 hF hl h
    · rw [if_neg hn] at h
      cases h
  | ior =>
    simp only [xins] at h ⊢
    by_cases hn : len = 1
    · rw [if_pos hn] at h ⊢
      exact m_i2 hF hl h
    · rw [if_neg hn] at h
      cases h
  | ishr =>
    simp only [xins] at h ⊢
    by_cases hn : len = 1
    · rw [if_pos hn] at h ⊢
      exact m_i2 hF hl h
    · rw [if_neg hn] at h
      cases h
  | idiv =>
    simp only [xins] at h ⊢
    by_cases hn : len = 1
    · rw [if_pos hn] at h ⊢
      exact m_id hF hl h
    · rw [if_neg hn] at h
      cases h
  | irem =>
    simp only [xins] at h ⊢
    by_cases hn : len = 1
    · rw [if_pos hn] at h ⊢
      exact m_id hF hl h
    · rw [if_neg hn] at h
      cases h
  | ladd =>
    simp only [xins] at h ⊢
    by_cases hn : len = 1
    · rw [if_pos hn] at h ⊢
      exact m_l2 hF hl h
    · rw [if_neg hn] at h
      cases h
  | lsub =>
    simp only [xins] at h ⊢
    by_cases hn : len = 1
    · rw [if_pos hn] at h ⊢
      exact m_l2 hF hl h
    · rw [if_neg hn] at h
      cases h
  | lmul =>
    simp only [xins] at h ⊢
    by_cases hn : len = 1
    · rw [if_pos hn] at h ⊢
      exact m_l2 hF hl h
    · rw [if_neg hn] at h
      cases h
  | land =>
    simp only [xins] at h ⊢
    by_cases hn : len = 1
    · rw [if_pos hn] at h ⊢
      exact m_l2 hF hl h
    · rw [if_neg hn] at h
      cases h
  | lor =>
    simp only [xins] at h ⊢
    by_cases hn : len = 1
    · rw [if_pos hn] at h ⊢
      exact m_l2 hF hl h
    · rw [if_neg hn] at h
      cases h
  | lxor =>
    simp only [xins] at h ⊢
    by_cases hn : len = 1
    · rw [if_pos hn] at h ⊢
      exact m_l2 hF hl h
    · rw [if_neg hn] at h
      cases h
  | ldiv =>
    simp only [xins] at h ⊢
    by_cases hn : len = 1
    · rw [if_pos hn] at h ⊢
      exact m_ld hF hl h
    · rw [if_neg hn] at h
      cases h
  | lrem =>
    simp only [xins] at h ⊢
    by_cases hn : len = 1
    · rw [if_pos hn] at h ⊢
      exact m_ld hF hl h
    · rw [if_neg hn] at h
      cases h
  | lshl =>
    simp only [xins] at h ⊢
    by_cases hn : len = 1
    · rw [if_pos hn] at h ⊢
      exact m_lsh hF hl h
    · rw [if_neg hn] at h
      cases h
  | lshr =>
    simp only [xins] at h ⊢
    by_cases hn : len = 1
    · rw [if_pos hn] at h ⊢
      exact m_lsh hF hl h
    · rw [if_neg hn] at h
      cases h
  | ineg =>
    simp only [xins] at h ⊢
    by_cases hn : len = 1
    · rw [if_pos hn] at h ⊢
      split at h
      · exact hF _ _ _ _ _ _ _ hl h
      · cases h
    · rw [if_neg hn] at h
      cases h
  | lneg =>
    simp only [xins] at h ⊢
    by_cases hn : len = 1
    · rw [if_pos hn] at h ⊢
      split at h
      · exact hF _ _ _ _ _ _ _ hl h
      · cases h
    · rw [if_neg hn] at h
      cases h
  | i2l =>
    simp only [xins] at h ⊢
    by_cases hn : len = 1
    · rw [if_pos hn] at h ⊢
      split at h
      · exact hF _ _ _ _ _ _ _ hl h
      · cases h
    · rw [if_neg hn] at h
      cases h
  | l2i =>
    simp only [xins] at h ⊢
    by_cases hn : len = 1
    · rw [if_pos hn] at h ⊢
      split at h
      · exact hF _ _ _ _ _ _ _ hl h
      · cases h
    · rw [if_neg hn] at h
      cases h
  | lcmp =>
    simp only [xins] at h ⊢
    by_cases hn : len = 1
    · rw [if_pos hn] at h ⊢
      split at h
      · exact hF _ _ _ _ _ _ _ hl h
      · cases h
    · rw [if_neg hn] at h
      cases h
  | ifCond cn off =>
    simp only [xins] at h ⊢
    by_cases hn : len = 3
    · rw [if_pos hn] at h ⊢
      split at h
      · exact m_br hF hl h
      · cases h
    · rw [if_neg hn] at h
      cases h
  | if_icmp cn off =>
    simp only [xins] at h ⊢
    by_cases hn : len = 3
    · rw [if_pos hn] at h ⊢
      split at h
      · exact m_br hF hl h
      · cases h
    · rw [if_neg hn] at h
      cases h
  | goto off =>
    simp only [xins] at h ⊢
    by_cases hn : len = 3
    · rw [if_pos hn] at h ⊢
      exact m_jump hF hl h
    · rw [if_neg hn] at h
      cases h
  | tableswitch d lo hi offs =>
    simp only [xins] at h ⊢
    split at h
    · split at h
      · rename_i c
        first | exact m_jump hF hl h | (simp only [if_pos c]; exact m_jump hF hl h)
      · rename_i c
        split at h
        · rename_i e
          first | exact m_jump hF hl h | (simp only [if_neg c, e]; exact m_jump hF hl h)
        · cases h
    · cases h
  | dup =>
    simp only [xins] at h ⊢
    by_cases hn : len = 1
    · rw [if_pos hn] at h ⊢
      split at h
      · split at h
        · rename_i c
          first | exact hF _ _ _ _ _ _ _ hl h | (simp only [if_pos c]; exact hF _ _ _ _ _ _ _ hl h)
        · cases h
      · cases h
    · rw [if_neg hn] at h
      cases h
  | dup2 =>
    simp only [xins] at h ⊢
    by_cases hn : len = 1
    · rw [if_pos hn] at h ⊢
      split at h
      · split at h
        · rename_i c
          first | exact hF _ _ _ _ _ _ _ hl h | (simp only [if_pos c]; exact hF _ _ _ _ _ _ _ hl h)
        · cases h
      · cases h
    · rw [if_neg hn] at h
      cases h
  | pop =>
    simp only [xins] at h ⊢
    by_cases hn : len = 1
    · rw [if_pos hn] at h ⊢
      split at h
      · split at h
        · rename_i c
          first | exact hF _ _ _ _ _ _ _ hl h | (simp only [if_pos c]; exact hF _ _ _ _ _ _ _ hl h)
        · cases h
      · cases h
    · rw [if_neg hn] at h
      cases h
  | getfield ix =>
    simp only [xins] at h ⊢
    by_cases hn : len = 3
    · rw [if_pos hn] at h ⊢
      exact m_getf hF hl h
    · rw [if_neg hn] at h
      cases h
  | putfield ix =>
    simp only [xins] at h ⊢
    by_cases hn : len = 3
    · rw [if_pos hn] at h ⊢
      exact m_putf hF hl h
    · rw [if_neg hn] at h
      cases h
  | getstatic ix =>
    simp only [xins] at h ⊢
    by_cases hn : len = 3
    · rw [if_pos hn] at h ⊢
      exact m_gets hF hl h
    · rw [if_neg hn] at h
      cases h
  | iaload =>
    simp only [xins] at h ⊢
    by_cases hn : len = 1
    · rw [if_pos hn] at h ⊢
      exact m_ald hF hl h
    · rw [if_neg hn] at h
      cases h
  | laload =>
    simp only [xins] at h ⊢
    by_cases hn : len = 1
    · rw [if_pos hn] at h ⊢
      exact m_lald hF hl h
    · rw [if_neg hn] at h
      cases h
  | iastore =>
    simp only [xins] at h ⊢
    by_cases hn : len = 1
    · rw [if_pos hn] at h ⊢
      exact m_iast hF hl h
    · rw [if_neg hn] at h
      cases h
  | lastore =>
    simp only [xins] at h ⊢
    by_cases hn : len = 1
    · rw [if_pos hn] at h ⊢
      exact m_last hF hl h
    · rw [if_neg hn] at h
      cases h
  | arraylength =>
    simp only [xins] at h ⊢
    by_cases hn : len = 1
    · rw [if_pos hn] at h ⊢
      exact m_alen hF hl h
    · rw [if_neg hn] at h
      cases h
  | newarray t =>
    simp only [xins] at h ⊢
    by_cases hn : len = 2
    · rw [if_pos hn] at h ⊢
      exact m_newa hF hl h
    · rw [if_neg hn] at h
      cases h
  | new ix =>
    simp only [xins] at h ⊢
    by_cases hn : len = 3
    · rw [if_pos hn] at h ⊢
      exact m_new hF hl h
    · rw [if_neg hn] at h
      cases h
  | invokevirtual ix =>
    simp only [xins] at h ⊢
    by_cases hn : len = 3
    · rw [if_pos hn] at h ⊢
      exact m_invV hF hl h
    · rw [if_neg hn] at h
      cases h
  | invokestatic ix =>
    simp only [xins] at h ⊢
    by_cases hn : len = 3
    · rw [if_pos hn] at h ⊢
      exact m_invS hF hl h
    · rw [if_neg hn] at h
      cases h
  | invokespecial ix =>
    simp only [xins] at h ⊢
    by_cases hn : len = 3
    · rw [if_pos hn] at h ⊢
      exact m_invI hF hl h
    · rw [if_neg hn] at h
      cases h
  | ireturn =>
    simp only [xins] at h ⊢
    by_cases hn : len = 1
    · rw [if_pos hn] at h ⊢
      exact h
    · rw [if_neg hn] at h
      cases h
  | lreturn =>
    simp only [xins] at h ⊢
    by_cases hn : len = 1
    · rw [if_pos hn] at h ⊢
      exact h
    · rw [if_neg hn] at h
      cases h
  | return_ =>
    simp only [xins] at h ⊢
    by_cases hn : len = 1
    · rw [if_pos hn] at h ⊢
      exact h
    · rw [if_neg hn] at h
      cases h
  | _ =>
    simp only [xins] at h
    cases h
end MO
theorem x_more : ∀ n, xMo (xrun n) (xrun n)
  | 0 => fun _ _ _ _ _ _ _ _ h => by cases h
  | n + 1 => by
    intro k pc l l' st w r hl h
    unfold xrun at h ⊢
    split at h
    · exact m_ins (x_more n) hl h
    · cases h
theorem xGo.more {k pc : Nat} {l l' : List (Option Value)} {st : List Value} {w : xW} {r : Option Value × xW} (hl : xle l l') (h : xGo k pc l st w r) : xGo k pc l' st w r := by
  obtain ⟨n, hn⟩ := h
  exact ⟨n, fun m hm => x_more m _ _ _ _ _ _ _ hl (hn m hm)⟩
