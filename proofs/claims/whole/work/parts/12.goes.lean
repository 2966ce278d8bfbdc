/-! RULES: from a place of the pure machine to the next -/
def irem (x y : Int32) : Int32 := x - x / y * y
def lrem (x y : Int64) : Int64 := x - x / y * y
def xroom (k z : Nat) : Bool := Nat.ble (xfr z + 1) (xfr k) && Nat.ble (8 + (xml z + 11) + xlo z) (xlo k) && Nat.blt z 307
section GO
variable {k pc pc' : Nat} {l l' : List (Option Value)} {st : List Value} {w : xW} {r : Option Value × xW}
theorem g_of {i : Instr} {len : Nat} (hd : xcode k pc = some (i, len)) (h : ∃ n, ∀ m, n ≤ m → xins (xrun m) k pc l st w i len = some r) : xGo k pc l st w r := by
  obtain ⟨n, hn⟩ := h
  refine ⟨n + 1, fun m hm => ?_⟩
  match m, hm with
  | m + 1, hm =>
    show (match xcode k pc with | some (i, len) => xins (xrun m) k pc l st w i len | none => none) = some r
    rw [hd]
    exact hn m (by omega)
theorem g_iconst {n : Int} {v : Int32} (hd : xcode k pc = some (.iconst n, 1)) (hp : pc + 1 = pc') (hv : Int32.ofInt n = v) (h : xGo k pc' l (.int v :: st) w r) : xGo k pc l st w r := by subst hp; subst hv; exact g_of hd h
theorem g_bipush {n : Int} {v : Int32} (hd : xcode k pc = some (.bipush n, 2)) (hp : pc + 2 = pc') (hv : (Int8.ofInt n).toInt32 = v) (h : xGo k pc' l (.int v :: st) w r) : xGo k pc l st w r := by subst hp; subst hv; exact g_of hd h
theorem g_sipush {n : Int} {v : Int32} (hd : xcode k pc = some (.sipush n, 3)) (hp : pc + 3 = pc') (hv : (Int16.ofInt n).toInt32 = v) (h : xGo k pc' l (.int v :: st) w r) : xGo k pc l st w r := by subst hp; subst hv; exact g_of hd h
theorem g_lconst {n : Fin 2} {v : Int64} (hd : xcode k pc = some (.lconst n, 1)) (hp : pc + 1 = pc') (hv : Int64.ofNat (n : Nat) = v) (h : xGo k pc' l (.long v :: st) w r) : xGo k pc l st w r := by subst hp; subst hv; exact g_of hd h
theorem g_ldc {ix a b : Nat} {c : Int} {v : Int32} (hd : xcode k pc = some (.ldc ix, 2)) (hp : pc + 2 = pc') (hs : xsite k ix = some (9, a, b, c)) (hv : Int32.ofInt c = v) (h : xGo k pc' l (.int v :: st) w r) : xGo k pc l st w r := by
  subst hp; subst hv
  refine g_of hd ?_
  simp only [xins, hs, if_true]
  exact h
theorem g_ldcw {ix a b : Nat} {c : Int} {v : Int32} (hd : xcode k pc = some (.ldc_w ix, 3)) (hp : pc + 3 = pc') (hs : xsite k ix = some (9, a, b, c)) (hv : Int32.ofInt c = v) (h : xGo k pc' l (.int v :: st) w r) : xGo k pc l st w r := by
  subst hp; subst hv
  refine g_of hd ?_
  simp only [xins, hs, if_true]
  exact h
theorem g_ldc2 {ix a b : Nat} {c : Int} {v : Int64} (hd : xcode k pc = some (.ldc2_w ix, 3)) (hp : pc + 3 = pc') (hs : xsite k ix = some (10, a, b, c)) (hv : Int64.ofInt c = v) (h : xGo k pc' l (.long v :: st) w r) : xGo k pc l st w r := by
  subst hp; subst hv
  refine g_of hd ?_
  simp only [xins, hs, if_true]
  exact h
theorem g_iloadn {n : Fin 4} {x : Int32} (hd : xcode k pc = some (.iload_n n, 1)) (hp : pc + 1 = pc') (hx : l[(n : Nat)]? = some (some (.int x))) (h : xGo k pc' l (.int x :: st) w r) : xGo k pc l st w r := by
  subst hp
  refine g_of hd ?_
  simp only [xins, xild, hx, if_true]
  exact h
theorem g_iload {n : Nat} {x : Int32} (hd : xcode k pc = some (.iload n, 2)) (hp : pc + 2 = pc') (hx : l[n]? = some (some (.int x))) (h : xGo k pc' l (.int x :: st) w r) : xGo k pc l st w r := by
  subst hp
  refine g_of hd ?_
  simp only [xins, xild, hx, if_true]
  exact h
theorem g_lloadn {n : Fin 4} {x : Int64} (hd : xcode k pc = some (.lload_n n, 1)) (hp : pc + 1 = pc') (hx : l[(n : Nat)]? = some (some (.long x))) (h : xGo k pc' l (.long x :: st) w r) : xGo k pc l st w r := by
  subst hp
  refine g_of hd ?_
  simp only [xins, xlld, hx, if_true]
  exact h
theorem g_lload {n : Nat} {x : Int64} (hd : xcode k pc = some (.lload n, 2)) (hp : pc + 2 = pc') (hx : l[n]? = some (some (.long x))) (h : xGo k pc' l (.long x :: st) w r) : xGo k pc l st w r := by
  subst hp
  refine g_of hd ?_
  simp only [xins, xlld, hx, if_true]
  exact h
theorem g_aloadn {n : Fin 4} {x : Nat} (hd : xcode k pc = some (.aload_n n, 1)) (hp : pc + 1 = pc') (hx : l[(n : Nat)]? = some (some (.ref x))) (h : xGo k pc' l (.ref x :: st) w r) : xGo k pc l st w r := by
  subst hp
  refine g_of hd ?_
  simp only [xins, xaldr, hx, if_true]
  exact h
theorem g_aload {n : Nat} {x : Nat} (hd : xcode k pc = some (.aload n, 2)) (hp : pc + 2 = pc') (hx : l[n]? = some (some (.ref x))) (h : xGo k pc' l (.ref x :: st) w r) : xGo k pc l st w r := by
  subst hp
  refine g_of hd ?_
  simp only [xins, xaldr, hx, if_true]
  exact h
theorem g_istoren {n : Fin 4} {x : Int32} (hd : xcode k pc = some (.istore_n n, 1)) (hp : pc + 1 = pc') {M : Nat} (hm : xml k = M) (hn : Nat.blt (n : Nat) M = true) (hl : xst1 l (n : Nat) (.int x) = l') (h : xGo k pc' l' st w r) : xGo k pc l (.int x :: st) w r := by
  subst hp; subst hl
  have hn : (n : Nat) < xml k := by rw [hm]; exact Nat.le_of_ble_eq_true hn
  refine g_of hd ?_
  simp only [xins, xis, if_true, if_pos hn]
  exact h
theorem g_istore {n : Nat} {x : Int32} (hd : xcode k pc = some (.istore n, 2)) (hp : pc + 2 = pc') {M : Nat} (hm : xml k = M) (hn : Nat.blt n M = true) (hl : xst1 l n (.int x) = l') (h : xGo k pc' l' st w r) : xGo k pc l (.int x :: st) w r := by
  subst hp; subst hl
  have hn : n < xml k := by rw [hm]; exact Nat.le_of_ble_eq_true hn
  refine g_of hd ?_
  simp only [xins, xis, if_true, if_pos hn]
  exact h
theorem g_astoren {n : Fin 4} {x : Nat} (hd : xcode k pc = some (.astore_n n, 1)) (hp : pc + 1 = pc') {M : Nat} (hm : xml k = M) (hn : Nat.blt (n : Nat) M = true) (hl : xst1 l (n : Nat) (.ref x) = l') (h : xGo k pc' l' st w r) : xGo k pc l (.ref x :: st) w r := by
  subst hp; subst hl
  have hn : (n : Nat) < xml k := by rw [hm]; exact Nat.le_of_ble_eq_true hn
  refine g_of hd ?_
  simp only [xins, xas, if_true, if_pos hn]
  exact h
theorem g_astore {n : Nat} {x : Nat} (hd : xcode k pc = some (.astore n, 2)) (hp : pc + 2 = pc') {M : Nat} (hm : xml k = M) (hn : Nat.blt n M = true) (hl : xst1 l n (.ref x) = l') (h : xGo k pc' l' st w r) : xGo k pc l (.ref x :: st) w r := by
  subst hp; subst hl
  have hn : n < xml k := by rw [hm]; exact Nat.le_of_ble_eq_true hn
  refine g_of hd ?_
  simp only [xins, xas, if_true, if_pos hn]
  exact h
theorem g_lstoren {n : Fin 4} {x : Int64} (hd : xcode k pc = some (.lstore_n n, 1)) (hp : pc + 1 = pc') {M : Nat} (hm : xml k = M) (hn : Nat.blt ((n : Nat) + 1) M = true) (hl : xst2 l (n : Nat) (.long x) = l') (h : xGo k pc' l' st w r) : xGo k pc l (.long x :: st) w r := by
  subst hp; subst hl
  have hn : (n : Nat) + 1 < xml k := by rw [hm]; exact Nat.le_of_ble_eq_true hn
  refine g_of hd ?_
  simp only [xins, xls, if_true, if_pos hn]
  exact h
theorem g_lstore {n : Nat} {x : Int64} (hd : xcode k pc = some (.lstore n, 2)) (hp : pc + 2 = pc') {M : Nat} (hm : xml k = M) (hn : Nat.blt (n + 1) M = true) (hl : xst2 l n (.long x) = l') (h : xGo k pc' l' st w r) : xGo k pc l (.long x :: st) w r := by
  subst hp; subst hl
  have hn : n + 1 < xml k := by rw [hm]; exact Nat.le_of_ble_eq_true hn
  refine g_of hd ?_
  simp only [xins, xls, if_true, if_pos hn]
  exact h
theorem g_iinc {n : Nat} {d : Int} {x v : Int32} (hd : xcode k pc = some (.iinc n d, 3)) (hp : pc + 3 = pc') (hx : l[n]? = some (some (.int x))) (hv : Int32.ofInt d = v) {M : Nat} (hm : xml k = M) (hn : Nat.blt n M = true) (hl : xst1 l n (.int (x + v)) = l') (h : xGo k pc' l' st w r) : xGo k pc l st w r := by
  subst hp; subst hl; subst hv
  have hn : n < xml k := by rw [hm]; exact Nat.le_of_ble_eq_true hn
  refine g_of hd ?_
  simp only [xins, xinc, hx, if_true, if_pos hn]
  exact h
theorem g_iadd {x y : Int32} (hd : xcode k pc = some (.iadd, 1)) (hp : pc + 1 = pc') (h : xGo k pc' l (.int (x + y) :: st) w r) : xGo k pc l (.int y :: .int x :: st) w r := by subst hp; exact g_of hd h
theorem g_isub {x y : Int32} (hd : xcode k pc = some (.isub, 1)) (hp : pc + 1 = pc') (h : xGo k pc' l (.int (x - y) :: st) w r) : xGo k pc l (.int y :: .int x :: st) w r := by subst hp; exact g_of hd h
theorem g_imul {x y : Int32} (hd : xcode k pc = some (.imul, 1)) (hp : pc + 1 = pc') (h : xGo k pc' l (.int (x * y) :: st) w r) : xGo k pc l (.int y :: .int x :: st) w r := by subst hp; exact g_of hd h
theorem g_iand {x y : Int32} (hd : xcode k pc = some (.iand, 1)) (hp : pc + 1 = pc') (h : xGo k pc' l (.int (x &&& y) :: st) w r) : xGo k pc l (.int y :: .int x :: st) w r := by subst hp; exact g_of hd h
theorem g_ior {x y : Int32} (hd : xcode k pc = some (.ior, 1)) (hp : pc + 1 = pc') (h : xGo k pc' l (.int (x ||| y) :: st) w r) : xGo k pc l (.int y :: .int x :: st) w r := by subst hp; exact g_of hd h
theorem g_ishr {x y : Int32} (hd : xcode k pc = some (.ishr, 1)) (hp : pc + 1 = pc') (h : xGo k pc' l (.int (x >>> (y &&& 31)) :: st) w r) : xGo k pc l (.int y :: .int x :: st) w r := by subst hp; exact g_of hd h
theorem g_ladd {x y : Int64} (hd : xcode k pc = some (.ladd, 1)) (hp : pc + 1 = pc') (h : xGo k pc' l (.long (x + y) :: st) w r) : xGo k pc l (.long y :: .long x :: st) w r := by subst hp; exact g_of hd h
theorem g_lsub {x y : Int64} (hd : xcode k pc = some (.lsub, 1)) (hp : pc + 1 = pc') (h : xGo k pc' l (.long (x - y) :: st) w r) : xGo k pc l (.long y :: .long x :: st) w r := by subst hp; exact g_of hd h
theorem g_lmul {x y : Int64} (hd : xcode k pc = some (.lmul, 1)) (hp : pc + 1 = pc') (h : xGo k pc' l (.long (x * y) :: st) w r) : xGo k pc l (.long y :: .long x :: st) w r := by subst hp; exact g_of hd h
theorem g_land {x y : Int64} (hd : xcode k pc = some (.land, 1)) (hp : pc + 1 = pc') (h : xGo k pc' l (.long (x &&& y) :: st) w r) : xGo k pc l (.long y :: .long x :: st) w r := by subst hp; exact g_of hd h
theorem g_lor {x y : Int64} (hd : xcode k pc = some (.lor, 1)) (hp : pc + 1 = pc') (h : xGo k pc' l (.long (x ||| y) :: st) w r) : xGo k pc l (.long y :: .long x :: st) w r := by subst hp; exact g_of hd h
theorem g_lxor {x y : Int64} (hd : xcode k pc = some (.lxor, 1)) (hp : pc + 1 = pc') (h : xGo k pc' l (.long (x ^^^ y) :: st) w r) : xGo k pc l (.long y :: .long x :: st) w r := by subst hp; exact g_of hd h
theorem g_idiv {x y : Int32} (hd : xcode k pc = some (.idiv, 1)) (hp : pc + 1 = pc') (hy : ¬ y = 0) (h : xGo k pc' l (.int (x / y) :: st) w r) : xGo k pc l (.int y :: .int x :: st) w r := by
  subst hp
  refine g_of hd ?_
  simp only [xins, xid, if_true, if_neg hy]
  exact h
theorem g_irem {x y : Int32} (hd : xcode k pc = some (.irem, 1)) (hp : pc + 1 = pc') (hy : ¬ y = 0) (h : xGo k pc' l (.int (irem x y) :: st) w r) : xGo k pc l (.int y :: .int x :: st) w r := by
  subst hp
  refine g_of hd ?_
  simp only [xins, xid, if_true, if_neg hy]
  exact h
theorem g_ldiv {x y : Int64} (hd : xcode k pc = some (.ldiv, 1)) (hp : pc + 1 = pc') (hy : ¬ y = 0) (h : xGo k pc' l (.long (x / y) :: st) w r) : xGo k pc l (.long y :: .long x :: st) w r := by
  subst hp
  refine g_of hd ?_
  simp only [xins, xld, if_true, if_neg hy]
  exact h
theorem g_lrem {x y : Int64} (hd : xcode k pc = some (.lrem, 1)) (hp : pc + 1 = pc') (hy : ¬ y = 0) (h : xGo k pc' l (.long (lrem x y) :: st) w r) : xGo k pc l (.long y :: .long x :: st) w r := by
  subst hp
  refine g_of hd ?_
  simp only [xins, xld, if_true, if_neg hy]
  exact h
theorem g_lshl {x : Int64} {y : Int32} (hd : xcode k pc = some (.lshl, 1)) (hp : pc + 1 = pc') (h : xGo k pc' l (.long (x <<< (y.toInt64 &&& 63)) :: st) w r) : xGo k pc l (.int y :: .long x :: st) w r := by subst hp; exact g_of hd h
theorem g_lshr {x : Int64} {y : Int32} (hd : xcode k pc = some (.lshr, 1)) (hp : pc + 1 = pc') (h : xGo k pc' l (.long (x >>> (y.toInt64 &&& 63)) :: st) w r) : xGo k pc l (.int y :: .long x :: st) w r := by subst hp; exact g_of hd h
theorem g_ineg {x : Int32} (hd : xcode k pc = some (.ineg, 1)) (hp : pc + 1 = pc') (h : xGo k pc' l (.int (-x) :: st) w r) : xGo k pc l (.int x :: st) w r := by subst hp; exact g_of hd h
theorem g_lneg {x : Int64} (hd : xcode k pc = some (.lneg, 1)) (hp : pc + 1 = pc') (h : xGo k pc' l (.long (-x) :: st) w r) : xGo k pc l (.long x :: st) w r := by subst hp; exact g_of hd h
theorem g_i2l {x : Int32} (hd : xcode k pc = some (.i2l, 1)) (hp : pc + 1 = pc') (h : xGo k pc' l (.long (x.toInt64) :: st) w r) : xGo k pc l (.int x :: st) w r := by subst hp; exact g_of hd h
theorem g_l2i {x : Int64} (hd : xcode k pc = some (.l2i, 1)) (hp : pc + 1 = pc') (h : xGo k pc' l (.int (x.toInt32) :: st) w r) : xGo k pc l (.long x :: st) w r := by subst hp; exact g_of hd h
theorem g_lcmp {x y : Int64} (hd : xcode k pc = some (.lcmp, 1)) (hp : pc + 1 = pc') (h : xGo k pc' l (.int (lg_cmp x y) :: st) w r) : xGo k pc l (.long y :: .long x :: st) w r := by subst hp; exact g_of hd h
theorem g_br {F : xK} {b : Bool} {off : Int} {res : Option Value × xW} {pt : Nat} (hz : (pc : Int) + off = (pt : Int)) (ht : b = true → F k pt l st w = some res) (hf : b = false → F k (pc + 3) l st w = some res) : xbr F b k pc off l st w = some res := by
  unfold xbr
  have h0 : 0 ≤ (pc : Int) + off := by omega
  have e : xtgt pc off = pt := by unfold xtgt; omega
  rw [if_pos h0, e]
  cases b with
  | true => rw [if_pos rfl]; exact ht rfl
  | false => rw [if_neg (by decide)]; exact hf rfl
theorem g_both {c : Prop} [Decidable c] {off : Int} {pt : Nat} (hz : (pc : Int) + off = (pt : Int)) (hp : pc + 3 = pc') (ht : c → xGo k pt l st w r) (hf : ¬ c → xGo k pc' l st w r) : ∃ n, ∀ m, n ≤ m → xbr (xrun m) (decide c) k pc off l st w = some r := by
  subst hp
  by_cases hc : c
  · obtain ⟨n, hn⟩ := ht hc
    exact ⟨n, fun m hm => g_br hz (fun _ => hn m hm) (fun q => absurd hc (of_decide_eq_false q))⟩
  · obtain ⟨n, hn⟩ := hf hc
    exact ⟨n, fun m hm => g_br hz (fun q => absurd (of_decide_eq_true q) hc) (fun _ => hn m hm)⟩
theorem g_if_eq {x : Int32} {off : Int} {pt : Nat} (hd : xcode k pc = some (.ifCond .eq off, 3)) (hz : (pc : Int) + off = (pt : Int)) (hp : pc + 3 = pc') (ht : x = 0 → xGo k pt l st w r) (hf : ¬ (x = 0) → xGo k pc' l st w r) : xGo k pc l (.int x :: st) w r := g_of hd (g_both hz hp ht hf)
theorem g_ic_eq {x y : Int32} {off : Int} {pt : Nat} (hd : xcode k pc = some (.if_icmp .eq off, 3)) (hz : (pc : Int) + off = (pt : Int)) (hp : pc + 3 = pc') (ht : x = y → xGo k pt l st w r) (hf : ¬ (x = y) → xGo k pc' l st w r) : xGo k pc l (.int y :: .int x :: st) w r := g_of hd (g_both hz hp ht hf)
theorem g_if_ne {x : Int32} {off : Int} {pt : Nat} (hd : xcode k pc = some (.ifCond .ne off, 3)) (hz : (pc : Int) + off = (pt : Int)) (hp : pc + 3 = pc') (ht : ¬ x = 0 → xGo k pt l st w r) (hf : ¬ (¬ x = 0) → xGo k pc' l st w r) : xGo k pc l (.int x :: st) w r := g_of hd (g_both hz hp ht hf)
theorem g_ic_ne {x y : Int32} {off : Int} {pt : Nat} (hd : xcode k pc = some (.if_icmp .ne off, 3)) (hz : (pc : Int) + off = (pt : Int)) (hp : pc + 3 = pc') (ht : ¬ x = y → xGo k pt l st w r) (hf : ¬ (¬ x = y) → xGo k pc' l st w r) : xGo k pc l (.int y :: .int x :: st) w r := g_of hd (g_both hz hp ht hf)
theorem g_if_lt {x : Int32} {off : Int} {pt : Nat} (hd : xcode k pc = some (.ifCond .lt off, 3)) (hz : (pc : Int) + off = (pt : Int)) (hp : pc + 3 = pc') (ht : x < 0 → xGo k pt l st w r) (hf : ¬ (x < 0) → xGo k pc' l st w r) : xGo k pc l (.int x :: st) w r := g_of hd (g_both hz hp ht hf)
theorem g_ic_lt {x y : Int32} {off : Int} {pt : Nat} (hd : xcode k pc = some (.if_icmp .lt off, 3)) (hz : (pc : Int) + off = (pt : Int)) (hp : pc + 3 = pc') (ht : x < y → xGo k pt l st w r) (hf : ¬ (x < y) → xGo k pc' l st w r) : xGo k pc l (.int y :: .int x :: st) w r := g_of hd (g_both hz hp ht hf)
theorem g_if_ge {x : Int32} {off : Int} {pt : Nat} (hd : xcode k pc = some (.ifCond .ge off, 3)) (hz : (pc : Int) + off = (pt : Int)) (hp : pc + 3 = pc') (ht : 0 ≤ x → xGo k pt l st w r) (hf : ¬ (0 ≤ x) → xGo k pc' l st w r) : xGo k pc l (.int x :: st) w r := g_of hd (g_both hz hp ht hf)
theorem g_ic_ge {x y : Int32} {off : Int} {pt : Nat} (hd : xcode k pc = some (.if_icmp .ge off, 3)) (hz : (pc : Int) + off = (pt : Int)) (hp : pc + 3 = pc') (ht : y ≤ x → xGo k pt l st w r) (hf : ¬ (y ≤ x) → xGo k pc' l st w r) : xGo k pc l (.int y :: .int x :: st) w r := g_of hd (g_both hz hp ht hf)
theorem g_if_gt {x : Int32} {off : Int} {pt : Nat} (hd : xcode k pc = some (.ifCond .gt off, 3)) (hz : (pc : Int) + off = (pt : Int)) (hp : pc + 3 = pc') (ht : 0 < x → xGo k pt l st w r) (hf : ¬ (0 < x) → xGo k pc' l st w r) : xGo k pc l (.int x :: st) w r := g_of hd (g_both hz hp ht hf)
theorem g_ic_gt {x y : Int32} {off : Int} {pt : Nat} (hd : xcode k pc = some (.if_icmp .gt off, 3)) (hz : (pc : Int) + off = (pt : Int)) (hp : pc + 3 = pc') (ht : y < x → xGo k pt l st w r) (hf : ¬ (y < x) → xGo k pc' l st w r) : xGo k pc l (.int y :: .int x :: st) w r := g_of hd (g_both hz hp ht hf)
theorem g_if_le {x : Int32} {off : Int} {pt : Nat} (hd : xcode k pc = some (.ifCond .le off, 3)) (hz : (pc : Int) + off = (pt : Int)) (hp : pc + 3 = pc') (ht : x ≤ 0 → xGo k pt l st w r) (hf : ¬ (x ≤ 0) → xGo k pc' l st w r) : xGo k pc l (.int x :: st) w r := g_of hd (g_both hz hp ht hf)
theorem g_ic_le {x y : Int32} {off : Int} {pt : Nat} (hd : xcode k pc = some (.if_icmp .le off, 3)) (hz : (pc : Int) + off = (pt : Int)) (hp : pc + 3 = pc') (ht : x ≤ y → xGo k pt l st w r) (hf : ¬ (x ≤ y) → xGo k pc' l st w r) : xGo k pc l (.int y :: .int x :: st) w r := g_of hd (g_both hz hp ht hf)
theorem lg_cmp_cases (x y : Int64) : (x < y ∧ lg_cmp x y = -1) ∨ (x = y ∧ lg_cmp x y = 0) ∨ (y < x ∧ lg_cmp x y = 1) := by
  by_cases h1 : y < x
  · exact Or.inr (Or.inr ⟨h1, by simp [lg_cmp, h1]⟩)
  · by_cases h2 : x = y
    · subst h2
      exact Or.inr (Or.inl ⟨rfl, by simp [lg_cmp]⟩)
    · have h3 : x < y := Int64.lt_of_le_of_ne (Int64.not_lt.mp h1) h2
      exact Or.inl ⟨h3, by simp [lg_cmp, h1, h2]⟩
theorem lg_eq (x y : Int64) : ((lg_cmp x y) = 0) ↔ (x = y) := by
  have i1 : ∀ z : Int64, ¬ z < z := fun _ => Int64.lt_irrefl
  rcases lg_cmp_cases x y with ⟨h, e⟩ | ⟨h, e⟩ | ⟨h, e⟩
  · rw [e]
    have n1 : ¬ x = y := fun q => i1 _ (q ▸ h)
    have n2 : ¬ y < x := fun q => i1 _ (Int64.lt_trans h q)
    have n3 : x ≤ y := Int64.le_of_lt h
    have n4 : ¬ y ≤ x := Int64.not_le.mpr h
    simp [h, n1, n2, n3, n4]
    try decide
  · subst h
    rw [e]
    simp [i1, Int64.le_refl]
  · rw [e]
    have n1 : ¬ x = y := fun q => i1 _ (q ▸ h)
    have n2 : ¬ x < y := fun q => i1 _ (Int64.lt_trans h q)
    have n3 : y ≤ x := Int64.le_of_lt h
    have n4 : ¬ x ≤ y := Int64.not_le.mpr h
    simp [h, n1, n2, n3, n4]
    try decide
theorem g_lc_eq {x y : Int64} {off : Int} {pm pt : Nat} (hd : xcode k pc = some (.lcmp, 1)) (hq : pc + 1 = pm) (hd2 : xcode k pm = some (.ifCond .eq off, 3)) (hz : (pm : Int) + off = (pt : Int)) (hp : pm + 3 = pc') (ht : x = y → xGo k pt l st w r) (hf : ¬ (x = y) → xGo k pc' l st w r) : xGo k pc l (.long y :: .long x :: st) w r :=
  g_lcmp hd hq (g_if_eq hd2 hz hp (fun q => ht ((lg_eq x y).mp q)) (fun q => hf (fun z => q ((lg_eq x y).mpr z))))
theorem lg_ne (x y : Int64) : (¬ (lg_cmp x y) = 0) ↔ (¬ x = y) := by
  have i1 : ∀ z : Int64, ¬ z < z := fun _ => Int64.lt_irrefl
  rcases lg_cmp_cases x y with ⟨h, e⟩ | ⟨h, e⟩ | ⟨h, e⟩
  · rw [e]
    have n1 : ¬ x = y := fun q => i1 _ (q ▸ h)
    have n2 : ¬ y < x := fun q => i1 _ (Int64.lt_trans h q)
    have n3 : x ≤ y := Int64.le_of_lt h
    have n4 : ¬ y ≤ x := Int64.not_le.mpr h
    simp [h, n1, n2, n3, n4]
    try decide
  · subst h
    rw [e]
    simp [i1, Int64.le_refl]
  · rw [e]
    have n1 : ¬ x = y := fun q => i1 _ (q ▸ h)
    have n2 : ¬ x < y := fun q => i1 _ (Int64.lt_trans h q)
    have n3 : y ≤ x := Int64.le_of_lt h
    have n4 : ¬ x ≤ y := Int64.not_le.mpr h
    simp [h, n1, n2, n3, n4]
    try decide
theorem g_lc_ne {x y : Int64} {off : Int} {pm pt : Nat} (hd : xcode k pc = some (.lcmp, 1)) (hq : pc + 1 = pm) (hd2 : xcode k pm = some (.ifCond .ne off, 3)) (hz : (pm : Int) + off = (pt : Int)) (hp : pm + 3 = pc') (ht : ¬ x = y → xGo k pt l st w r) (hf : ¬ (¬ x = y) → xGo k pc' l st w r) : xGo k pc l (.long y :: .long x :: st) w r :=
  g_lcmp hd hq (g_if_ne hd2 hz hp (fun q => ht ((lg_ne x y).mp q)) (fun q => hf (fun z => q ((lg_ne x y).mpr z))))
theorem lg_lt (x y : Int64) : ((lg_cmp x y) < 0) ↔ (x < y) := by
  have i1 : ∀ z : Int64, ¬ z < z := fun _ => Int64.lt_irrefl
  rcases lg_cmp_cases x y with ⟨h, e⟩ | ⟨h, e⟩ | ⟨h, e⟩
  · rw [e]
    have n1 : ¬ x = y := fun q => i1 _ (q ▸ h)
    have n2 : ¬ y < x := fun q => i1 _ (Int64.lt_trans h q)
    have n3 : x ≤ y := Int64.le_of_lt h
    have n4 : ¬ y ≤ x := Int64.not_le.mpr h
    simp [h, n1, n2, n3, n4]
    try decide
  · subst h
    rw [e]
    simp [i1, Int64.le_refl]
  · rw [e]
    have n1 : ¬ x = y := fun q => i1 _ (q ▸ h)
    have n2 : ¬ x < y := fun q => i1 _ (Int64.lt_trans h q)
    have n3 : y ≤ x := Int64.le_of_lt h
    have n4 : ¬ x ≤ y := Int64.not_le.mpr h
    simp [h, n1, n2, n3, n4]
    try decide
theorem g_lc_lt {x y : Int64} {off : Int} {pm pt : Nat} (hd : xcode k pc = some (.lcmp, 1)) (hq : pc + 1 = pm) (hd2 : xcode k pm = some (.ifCond .lt off, 3)) (hz : (pm : Int) + off = (pt : Int)) (hp : pm + 3 = pc') (ht : x < y → xGo k pt l st w r) (hf : ¬ (x < y) → xGo k pc' l st w r) : xGo k pc l (.long y :: .long x :: st) w r :=
  g_lcmp hd hq (g_if_lt hd2 hz hp (fun q => ht ((lg_lt x y).mp q)) (fun q => hf (fun z => q ((lg_lt x y).mpr z))))
theorem lg_ge (x y : Int64) : (0 ≤ (lg_cmp x y)) ↔ (y ≤ x) := by
  have i1 : ∀ z : Int64, ¬ z < z := fun _ => Int64.lt_irrefl
  rcases lg_cmp_cases x y with ⟨h, e⟩ | ⟨h, e⟩ | ⟨h, e⟩
  · rw [e]
    have n1 : ¬ x = y := fun q => i1 _ (q ▸ h)
    have n2 : ¬ y < x := fun q => i1 _ (Int64.lt_trans h q)
    have n3 : x ≤ y := Int64.le_of_lt h
    have n4 : ¬ y ≤ x := Int64.not_le.mpr h
    simp [h, n1, n2, n3, n4]
    try decide
  · subst h
    rw [e]
    simp [i1, Int64.le_refl]
  · rw [e]
    have n1 : ¬ x = y := fun q => i1 _ (q ▸ h)
    have n2 : ¬ x < y := fun q => i1 _ (Int64.lt_trans h q)
    have n3 : y ≤ x := Int64.le_of_lt h
    have n4 : ¬ x ≤ y := Int64.not_le.mpr h
    simp [h, n1, n2, n3, n4]
    try decide
theorem g_lc_ge {x y : Int64} {off : Int} {pm pt : Nat} (hd : xcode k pc = some (.lcmp, 1)) (hq : pc + 1 = pm) (hd2 : xcode k pm = some (.ifCond .ge off, 3)) (hz : (pm : Int) + off = (pt : Int)) (hp : pm + 3 = pc') (ht : y ≤ x → xGo k pt l st w r) (hf : ¬ (y ≤ x) → xGo k pc' l st w r) : xGo k pc l (.long y :: .long x :: st) w r :=
  g_lcmp hd hq (g_if_ge hd2 hz hp (fun q => ht ((lg_ge x y).mp q)) (fun q => hf (fun z => q ((lg_ge x y).mpr z))))
theorem lg_gt (x y : Int64) : (0 < (lg_cmp x y)) ↔ (y < x) := by
  have i1 : ∀ z : Int64, ¬ z < z := fun _ => Int64.lt_irrefl
  rcases lg_cmp_cases x y with ⟨h, e⟩ | ⟨h, e⟩ | ⟨h, e⟩
  · rw [e]
    have n1 : ¬ x = y := fun q => i1 _ (q ▸ h)
    have n2 : ¬ y < x := fun q => i1 _ (Int64.lt_trans h q)
    have n3 : x ≤ y := Int64.le_of_lt h
    have n4 : ¬ y ≤ x := Int64.not_le.mpr h
    simp [h, n1, n2, n3, n4]
    try decide
  · subst h
    rw [e]
    simp [i1, Int64.le_refl]
  · rw [e]
    have n1 : ¬ x = y := fun q => i1 _ (q ▸ h)
    have n2 : ¬ x < y := fun q => i1 _ (Int64.lt_trans h q)
    have n3 : y ≤ x := Int64.le_of_lt h
    have n4 : ¬ x ≤ y := Int64.not_le.mpr h
    simp [h, n1, n2, n3, n4]
    try decide
theorem g_lc_gt {x y : Int64} {off : Int} {pm pt : Nat} (hd : xcode k pc = some (.lcmp, 1)) (hq : pc + 1 = pm) (hd2 : xcode k pm = some (.ifCond .gt off, 3)) (hz : (pm : Int) + off = (pt : Int)) (hp : pm + 3 = pc') (ht : y < x → xGo k pt l st w r) (hf : ¬ (y < x) → xGo k pc' l st w r) : xGo k pc l (.long y :: .long x :: st) w r :=
  g_lcmp hd hq (g_if_gt hd2 hz hp (fun q => ht ((lg_gt x y).mp q)) (fun q => hf (fun z => q ((lg_gt x y).mpr z))))
theorem lg_le (x y : Int64) : ((lg_cmp x y) ≤ 0) ↔ (x ≤ y) := by
  have i1 : ∀ z : Int64, ¬ z < z := fun _ => Int64.lt_irrefl
  rcases lg_cmp_cases x y with ⟨h, e⟩ | ⟨h, e⟩ | ⟨h, e⟩
  · rw [e]
    have n1 : ¬ x = y := fun q => i1 _ (q ▸ h)
    have n2 : ¬ y < x := fun q => i1 _ (Int64.lt_trans h q)
    have n3 : x ≤ y := Int64.le_of_lt h
    have n4 : ¬ y ≤ x := Int64.not_le.mpr h
    simp [h, n1, n2, n3, n4]
    try decide
  · subst h
    rw [e]
    simp [i1, Int64.le_refl]
  · rw [e]
    have n1 : ¬ x = y := fun q => i1 _ (q ▸ h)
    have n2 : ¬ x < y := fun q => i1 _ (Int64.lt_trans h q)
    have n3 : y ≤ x := Int64.le_of_lt h
    have n4 : ¬ x ≤ y := Int64.not_le.mpr h
    simp [h, n1, n2, n3, n4]
    try decide
theorem g_lc_le {x y : Int64} {off : Int} {pm pt : Nat} (hd : xcode k pc = some (.lcmp, 1)) (hq : pc + 1 = pm) (hd2 : xcode k pm = some (.ifCond .le off, 3)) (hz : (pm : Int) + off = (pt : Int)) (hp : pm + 3 = pc') (ht : x ≤ y → xGo k pt l st w r) (hf : ¬ (x ≤ y) → xGo k pc' l st w r) : xGo k pc l (.long y :: .long x :: st) w r :=
  g_lcmp hd hq (g_if_le hd2 hz hp (fun q => ht ((lg_le x y).mp q)) (fun q => hf (fun z => q ((lg_le x y).mpr z))))
theorem g_jump {F : xK} {off : Int} {res : Option Value × xW} {pt : Nat} (hz : (pc : Int) + off = (pt : Int)) (ht : F k pt l st w = some res) : xjump F k pc off l st w = some res := by
  unfold xjump
  have h0 : 0 ≤ (pc : Int) + off := by omega
  have e : xtgt pc off = pt := by unfold xtgt; omega
  rw [if_pos h0, e]
  exact ht
theorem g_goto {off : Int} {pt : Nat} (hd : xcode k pc = some (.goto off, 3)) (hz : (pc : Int) + off = (pt : Int)) (h : xGo k pt l st w r) : xGo k pc l st w r := by
  obtain ⟨n, hn⟩ := h
  exact g_of hd ⟨n, fun m hm => g_jump hz (hn m hm)⟩
theorem g_dup {v : Value} (hd : xcode k pc = some (.dup, 1)) (hp : pc + 1 = pc') (hc : v.category = 1) (h : xGo k pc' l (v :: v :: st) w r) : xGo k pc l (v :: st) w r := by
  subst hp
  refine g_of hd ?_
  simp only [xins, if_true, if_pos hc]
  exact h
theorem g_dup2 {v u : Value} (hd : xcode k pc = some (.dup2, 1)) (hp : pc + 1 = pc') (hc : v.category = 1 ∧ u.category = 1) (h : xGo k pc' l (v :: u :: v :: u :: st) w r) : xGo k pc l (v :: u :: st) w r := by
  subst hp
  refine g_of hd ?_
  simp only [xins, if_true, if_pos hc]
  exact h
theorem g_pop {v : Value} (hd : xcode k pc = some (.pop, 1)) (hp : pc + 1 = pc') (hc : v.category = 1) (h : xGo k pc' l st w r) : xGo k pc l (v :: st) w r := by
  subst hp
  refine g_of hd ?_
  simp only [xins, if_true, if_pos hc]
  exact h
theorem g_getf {ix ci j a : Nat} {c : Int} {fs : List Value} {v : Value} (hd : xcode k pc = some (.getfield ix, 3)) (hp : pc + 3 = pc') (hs : xsite k ix = some (4, ci, j, c)) (hw : w[a]? = some (.inr (ci, fs))) (hv : fs[j]? = some v) (h : xGo k pc' l (v :: st) w r) : xGo k pc l (.ref a :: st) w r := by
  subst hp
  refine g_of hd ?_
  simp only [xins, xgetf, hs, hw, hv, if_true]
  exact h
theorem g_putf {ix ci j a : Nat} {c : Int} {fs : List Value} {v : Value} {ty : FieldType} {fd : String × String × String × Bool} (hd : xcode k pc = some (.putfield ix, 3)) (hp : pc + 3 = pc') (hs : xsite k ix = some (4, ci, j, c)) (ht : (xts.getD ci [])[j]? = some ty) (hf : (xfs.getD ci [])[j]? = some fd) (hfit : xfits ty v = true) (hfin : fd.2.2.2 = false ∨ (xy k).name = "<init>" ∧ fd.1 = (xy k).cls) (hw : w[a]? = some (.inr (ci, fs))) (hj : j < fs.length) (h : xGo k pc' l st (w.set a (.inr (ci, fs.set j v))) r) : xGo k pc l (v :: .ref a :: st) w r := by
  subst hp
  refine g_of hd ?_
  simp only [xins, xputf, hs, hw, if_true, true_and, if_pos hj, ht, hf, hfit, if_pos hfin]
  exact h
theorem g_gets {ix t a b : Nat} {c : Int} (hd : xcode k pc = some (.getstatic ix, 3)) (hp : pc + 3 = pc') (hs : xsite k ix = some (t, a, b, c)) (ht : t = 6 ∨ t = 7) (h : xGo k pc' l (.ref xP :: st) w r) : xGo k pc l st w r := by
  subst hp
  refine g_of hd ?_
  rcases ht with rfl | rfl
  · simp only [xins, xgets, hs, if_true]
    exact h
  · simp only [xins, xgets, hs, if_true]
    exact h
theorem g_iald {a n : Nat} {f : Nat → Int32} {i : Int32} (hd : xcode k pc = some (.iaload, 1)) (hp : pc + 1 = pc') (hw : w[a]? = some (.inl (.inl (n, f)))) (hi : ¬ (i < 0 ∨ n ≤ i.toNatClampNeg)) (h : xGo k pc' l (.int (f i.toNatClampNeg) :: st) w r) : xGo k pc l (.int i :: .ref a :: st) w r := by
  subst hp
  refine g_of hd ?_
  simp only [xins, xald, hw, if_true, if_neg hi]
  exact h
theorem g_pald {i : Int32} (hd : xcode k pc = some (.iaload, 1)) (hp : pc + 1 = pc') (hw : w[xP]? = none) (hi : ¬ (i < 0 ∨ 46 ≤ i.toNatClampNeg)) (h : xGo k pc' l (.int (xpr i.toNatClampNeg) :: st) w r) : xGo k pc l (.int i :: .ref xP :: st) w r := by
  subst hp
  refine g_of hd ?_
  simp only [xins, xald, hw, if_true, if_neg hi]
  exact h
theorem g_lald {a n : Nat} {f : Nat → Int64} {i : Int32} (hd : xcode k pc = some (.laload, 1)) (hp : pc + 1 = pc') (hw : w[a]? = some (.inl (.inr (n, f)))) (hi : ¬ (i < 0 ∨ n ≤ i.toNatClampNeg)) (h : xGo k pc' l (.long (f i.toNatClampNeg) :: st) w r) : xGo k pc l (.int i :: .ref a :: st) w r := by
  subst hp
  refine g_of hd ?_
  simp only [xins, xlald, hw, if_true, if_neg hi]
  exact h
theorem g_iast {a n : Nat} {f : Nat → Int32} {i x : Int32} (hd : xcode k pc = some (.iastore, 1)) (hp : pc + 1 = pc') (hw : w[a]? = some (.inl (.inl (n, f)))) (hi : ¬ (i < 0 ∨ n ≤ i.toNatClampNeg)) (h : xGo k pc' l st (w.set a (.inl (.inl (n, upd f i.toNatClampNeg x)))) r) : xGo k pc l (.int x :: .int i :: .ref a :: st) w r := by
  subst hp
  refine g_of hd ?_
  simp only [xins, xiast, hw, if_true, if_neg hi]
  exact h
theorem g_last {a n : Nat} {f : Nat → Int64} {i : Int32} {x : Int64} (hd : xcode k pc = some (.lastore, 1)) (hp : pc + 1 = pc') (hw : w[a]? = some (.inl (.inr (n, f)))) (hi : ¬ (i < 0 ∨ n ≤ i.toNatClampNeg)) (h : xGo k pc' l st (w.set a (.inl (.inr (n, vp_updL f i.toNatClampNeg x)))) r) : xGo k pc l (.long x :: .int i :: .ref a :: st) w r := by
  subst hp
  refine g_of hd ?_
  simp only [xins, xlast, hw, if_true, if_neg hi]
  exact h
theorem g_leni {a n : Nat} {f : Nat → Int32} (hd : xcode k pc = some (.arraylength, 1)) (hp : pc + 1 = pc') (hw : w[a]? = some (.inl (.inl (n, f)))) (h : xGo k pc' l (.int (Int32.ofNat n) :: st) w r) : xGo k pc l (.ref a :: st) w r := by
  subst hp
  refine g_of hd ?_
  simp only [xins, xalen, hw, if_true]
  exact h
theorem g_lenl {a n : Nat} {f : Nat → Int64} (hd : xcode k pc = some (.arraylength, 1)) (hp : pc + 1 = pc') (hw : w[a]? = some (.inl (.inr (n, f)))) (h : xGo k pc' l (.int (Int32.ofNat n) :: st) w r) : xGo k pc l (.ref a :: st) w r := by
  subst hp
  refine g_of hd ?_
  simp only [xins, xalen, hw, if_true]
  exact h
theorem g_lenp (hd : xcode k pc = some (.arraylength, 1)) (hp : pc + 1 = pc') (hw : w[xP]? = none) (h : xGo k pc' l (.int 46 :: st) w r) : xGo k pc l (.ref xP :: st) w r := by
  subst hp
  refine g_of hd ?_
  simp only [xins, xalen, hw, if_true]
  exact h
theorem g_newi {n : Int32} (hd : xcode k pc = some (.newarray .int, 2)) (hp : pc + 2 = pc') (hn : ¬ (n < 0 ∨ 1000000 < n.toNatClampNeg ∨ xP ≤ w.length + 1)) (h : xGo k pc' l (.ref w.length :: st) (w ++ [.inl (.inl (n.toNatClampNeg, fun _ => 0))]) r) : xGo k pc l (.int n :: st) w r := by
  subst hp
  refine g_of hd ?_
  simp only [xins, xnewa, if_true, if_neg hn]
  exact h
theorem g_newl {n : Int32} (hd : xcode k pc = some (.newarray .long, 2)) (hp : pc + 2 = pc') (hn : ¬ (n < 0 ∨ 1000000 < n.toNatClampNeg ∨ xP ≤ w.length + 1)) (h : xGo k pc' l (.ref w.length :: st) (w ++ [.inl (.inr (n.toNatClampNeg, fun _ => 0))]) r) : xGo k pc l (.int n :: st) w r := by
  subst hp
  refine g_of hd ?_
  simp only [xins, xnewa, if_true, if_neg hn]
  exact h
theorem g_new {ix ci b : Nat} {c : Int} (hd : xcode k pc = some (.new ix, 3)) (hp : pc + 3 = pc') (hs : xsite k ix = some (8, ci, b, c)) (hn : ¬ xP ≤ w.length + 1) (h : xGo k pc' l (.ref w.length :: st) (w ++ [.inr (ci, xvs.getD ci [])]) r) : xGo k pc l st w r := by
  subst hp
  refine g_of hd ?_
  simp only [xins, xnew, hs, if_true, if_neg hn]
  exact h
theorem g_iret {v : Int32} (hd : xcode k pc = some (.ireturn, 1)) (hr : xret k = some .int) (h : r = (some (.int v), w)) : xGo k pc l [.int v] w r := by
  subst h
  refine g_of hd ⟨0, fun m _ => ?_⟩
  simp only [xins, if_true, hr, true_or]
theorem g_zret {v : Int32} (hd : xcode k pc = some (.ireturn, 1)) (hr : xret k = some .boolean) (hv : v = 0 ∨ v = 1) (h : r = (some (.int v), w)) : xGo k pc l [.int v] w r := by
  subst h
  refine g_of hd ⟨0, fun m _ => ?_⟩
  simp only [xins, if_true, hr, hv, true_and, or_true]
theorem g_lret {v : Int64} (hd : xcode k pc = some (.lreturn, 1)) (hr : xret k = some .long) (h : r = (some (.long v), w)) : xGo k pc l [.long v] w r := by
  subst h
  refine g_of hd ⟨0, fun m _ => ?_⟩
  simp only [xins, if_true, hr]
theorem g_vret (hd : xcode k pc = some (.return_, 1)) (hr : xret k = none) (h : r = (none, w)) : xGo k pc l [] w r := by
  subst h
  refine g_of hd ⟨0, fun m _ => ?_⟩
  simp only [xins, if_true, hr]
/-- a call: what the callee comes to, then the rest -/
theorem g_call {z : Nat} {as rest : List Value} {v : Option Value} {w1 : xW} (hp : pc + 3 = pc') (hr : xroom k z = true) (hc : Nat.ble (rest.map fun v => v.category).sum 8 = true) (he : Nat.ble (xent1 as).length (xml z) = true) (h1 : xCall z as w (v, w1)) (h2 : xGo k pc' l (v.toList ++ rest) w1 r) : ∃ n, ∀ m, n ≤ m → xgo (xrun m) k pc l w z as rest = some r := by
  subst hp
  obtain ⟨n1, q1⟩ := h1
  obtain ⟨n2, q2⟩ := h2
  refine ⟨max n1 n2, fun m hm => ?_⟩
  unfold xroom at hr
  simp only [Bool.and_eq_true, Nat.ble_eq, Nat.blt] at hr
  unfold xgo
  rw [if_pos ⟨hr.1.1, hr.1.2, Nat.le_of_ble_eq_true hc, Nat.le_of_ble_eq_true he, by rw [x_mlen]; have := hr.2; omega⟩, q1 m (by omega)]
  exact q2 m (by omega)
theorem g_callS {ix z t : Nat} {c : Int} {as rest : List Value} {v : Option Value} {w1 : xW} (hd : xcode k pc = some (.invokestatic ix, 3)) (hp : pc + 3 = pc') (hs : xsite k ix = some (t, z, 1, c)) (ht : t = 0 ∨ t = 1) {N M : Nat} (hna : xna z = N) (hmz : xml z = M) (hst : st.drop N = rest) (has : (st.take N).reverse = as) (hl : Nat.ble N st.length = true) (hr : xroom k z = true) (hc : Nat.ble (rest.map fun v => v.category).sum 8 = true) (he : Nat.ble (xent1 as).length M = true) (h1 : xCall z as w (v, w1)) (h2 : xGo k pc' l (v.toList ++ rest) w1 r) : xGo k pc l st w r := by
  subst hna; subst hmz
  subst hst; subst has
  refine g_of hd ?_
  have hl := Nat.le_of_ble_eq_true hl
  rcases ht with rfl | rfl
  · simp only [xins, xinvS, hs, if_true, if_pos hl]
    exact g_call hp hr hc he h1 h2
  · simp only [xins, xinvS, hs, if_true, if_pos hl]
    exact g_call hp hr hc he h1 h2
theorem g_callV {ix z b : Nat} {c : Int} {as rest : List Value} {v : Option Value} {w1 : xW} {fs : List Value} (hd : xcode k pc = some (.invokevirtual ix, 3)) (hp : pc + 3 = pc') (hs : xsite k ix = some (0, z, 0, c)) {N M : Nat} (hna : xna z = N) (hmz : xml z = M) (hst : st.drop N = .ref b :: rest) (has : .ref b :: (st.take N).reverse = as) (hl : Nat.ble (N + 1) st.length = true) (hr : xroom k z = true) (hc : Nat.ble (rest.map fun v => v.category).sum 8 = true) (he : Nat.ble (xent1 as).length M = true) {ci : Nat} (ho : xown z = ci) (hw : w[b]? = some (.inr (ci, fs))) (h1 : xCall z as w (v, w1)) (h2 : xGo k pc' l (v.toList ++ rest) w1 r) : xGo k pc l st w r := by
  subst hna; subst hmz
  subst ho
  subst has
  refine g_of hd ?_
  have hl := Nat.le_of_ble_eq_true hl
  simp only [xins, xinvV, hs, if_true, if_pos hl, hst, hw]
  exact g_call hp hr hc he h1 h2
theorem g_callI {ix z t b : Nat} {c : Int} {as rest : List Value} {v : Option Value} {w1 : xW} (hd : xcode k pc = some (.invokespecial ix, 3)) (hp : pc + 3 = pc') (hs : xsite k ix = some (t, z, 2, c)) (ht : t = 0 ∨ t = 1) {N M : Nat} (hna : xna z = N) (hmz : xml z = M) (hst : st.drop N = .ref b :: rest) (has : .ref b :: (st.take N).reverse = as) (hl : Nat.ble (N + 1) st.length = true) (hr : xroom k z = true) (hc : Nat.ble (rest.map fun v => v.category).sum 8 = true) (he : Nat.ble (xent1 as).length M = true) (h1 : xCall z as w (v, w1)) (h2 : xGo k pc' l (v.toList ++ rest) w1 r) : xGo k pc l st w r := by
  subst hna; subst hmz
  subst has
  refine g_of hd ?_
  have hl := Nat.le_of_ble_eq_true hl
  rcases ht with rfl | rfl
  · simp only [xins, xinvI, hs, if_true, if_pos hl, hst]
    exact g_call hp hr hc he h1 h2
  · simp only [xins, xinvI, hs, if_true, if_pos hl, hst]
    exact g_call hp hr hc he h1 h2
theorem g_obj {ix a b a' : Nat} {c : Int} (hd : xcode k pc = some (.invokespecial ix, 3)) (hp : pc + 3 = pc') (hs : xsite k ix = some (2, a, b, c)) (hr : Nat.ble 1 (xfr k) = true) {M : Nat} (hm : xlo k = M) (hc : Nat.ble ((st.map fun v => v.category).sum + 12) M = true) (h : xGo k pc' l st w r) : xGo k pc l (.ref a' :: st) w r := by
  subst hp; subst hm
  refine g_of hd ?_
  simp only [xins, xinvI, hs, if_true, if_pos (And.intro (Nat.le_of_ble_eq_true hr) (Nat.le_of_ble_eq_true hc))]
  exact h
theorem g_cpyi {ix a0 b0 d a n0 n1 : Nat} {c : Int} {f g : Nat → Int32} {n dp sp : Int32} (hd : xcode k pc = some (.invokestatic ix, 3)) (hp : pc + 3 = pc') (hs : xsite k ix = some (3, a0, b0, c)) (hr : Nat.ble 1 (xfr k) = true) {M : Nat} (hm : xlo k = M) (hc : Nat.ble ((st.map fun v => v.category).sum + 18) M = true) (hn : ¬ n < 0 ∧ ¬ dp < 0 ∧ ¬ sp < 0) (ha : w[a]? = some (.inl (.inl (n0, f)))) (hb : w[d]? = some (.inl (.inl (n1, g)))) (hi : sp.toNatClampNeg + n.toNatClampNeg ≤ n0 ∧ dp.toNatClampNeg + n.toNatClampNeg ≤ n1) (h : xGo k pc' l st (w.set d (.inl (.inl (n1, va_cpy f g sp.toNatClampNeg dp.toNatClampNeg n.toNatClampNeg)))) r) : xGo k pc l (.int n :: .int dp :: .ref d :: .int sp :: .ref a :: st) w r := by
  subst hp; subst hm
  have hr := Nat.le_of_ble_eq_true hr
  have hc := Nat.le_of_ble_eq_true hc
  refine g_of hd ?_
  have hneg : ¬ (n < 0 ∨ dp < 0 ∨ sp < 0 ∨ xfr k < 1 ∨ xlo k < (st.map fun v => v.category).sum + 18) := by
    rintro (q | q | q | q | q)
    · exact hn.1 q
    · exact hn.2.1 q
    · exact hn.2.2 q
    · omega
    · omega
  simp only [xins, xinvS, hs, if_true, if_neg hneg, ha, hb, if_pos hi]
  exact h
theorem g_cpyl {ix a0 b0 d a n0 n1 : Nat} {c : Int} {f g : Nat → Int64} {n dp sp : Int32} (hd : xcode k pc = some (.invokestatic ix, 3)) (hp : pc + 3 = pc') (hs : xsite k ix = some (3, a0, b0, c)) (hr : Nat.ble 1 (xfr k) = true) {M : Nat} (hm : xlo k = M) (hc : Nat.ble ((st.map fun v => v.category).sum + 18) M = true) (hn : ¬ n < 0 ∧ ¬ dp < 0 ∧ ¬ sp < 0) (ha : w[a]? = some (.inl (.inr (n0, f)))) (hb : w[d]? = some (.inl (.inr (n1, g)))) (hi : sp.toNatClampNeg + n.toNatClampNeg ≤ n0 ∧ dp.toNatClampNeg + n.toNatClampNeg ≤ n1) (h : xGo k pc' l st (w.set d (.inl (.inr (n1, va_cpy f g sp.toNatClampNeg dp.toNatClampNeg n.toNatClampNeg)))) r) : xGo k pc l (.int n :: .int dp :: .ref d :: .int sp :: .ref a :: st) w r := by
  subst hp; subst hm
  have hr := Nat.le_of_ble_eq_true hr
  have hc := Nat.le_of_ble_eq_true hc
  refine g_of hd ?_
  have hneg : ¬ (n < 0 ∨ dp < 0 ∨ sp < 0 ∨ xfr k < 1 ∨ xlo k < (st.map fun v => v.category).sum + 18) := by
    rintro (q | q | q | q | q)
    · exact hn.1 q
    · exact hn.2.1 q
    · exact hn.2.2 q
    · omega
    · omega
  simp only [xins, xinvS, hs, if_true, if_neg hneg, ha, hb, if_pos hi]
  exact h
/-- a switch: of a number in the table -/
theorem g_tswIn {d lo hi off : Int} {offs : Array Int} {len pt : Nat} {x : Int32} (hd : xcode k pc = some (.tableswitch d lo hi offs, len)) (h1 : ¬ (x.toInt < lo ∨ hi < x.toInt)) (ho : offs[(x.toInt - lo).toNat]? = some off) (hz : (pc : Int) + off = (pt : Int)) (h : xGo k pt l st w r) : xGo k pc l (.int x :: st) w r := by
  obtain ⟨n, hn⟩ := h
  refine g_of hd ⟨n, fun m hm => ?_⟩
  simp only [xins, if_neg h1, ho]
  exact g_jump hz (hn m hm)
theorem g_tswOut {d lo hi : Int} {offs : Array Int} {len pt : Nat} {x : Int32} (hd : xcode k pc = some (.tableswitch d lo hi offs, len)) (h1 : x.toInt < lo ∨ hi < x.toInt) (hz : (pc : Int) + d = (pt : Int)) (h : xGo k pt l st w r) : xGo k pc l (.int x :: st) w r := by
  obtain ⟨n, hn⟩ := h
  refine g_of hd ⟨n, fun m hm => ?_⟩
  simp only [xins, if_pos h1]
  exact g_jump hz (hn m hm)
end GO
/-- a cell that was written is read -/
theorem x_gss {w : xW} {a : Nat} {c c' : xC} (h : w[a]? = some c) : (w.set a c')[a]? = some c' := by
  rw [List.getElem?_set_self (List.getElem?_eq_some_iff.mp h).1]
