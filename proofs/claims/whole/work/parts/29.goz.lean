/-! Z RULES: numbers as whole numbers, cells by predicates; laid by wip/whole/zg.py -/
def fI (w : xW) (a ci j : Nat) (z : Int) : Prop := ∃ fs, w[a]? = some (.inr (ci, fs)) ∧ fs[j]? = some (.int (jI z))
def fJ (w : xW) (a ci j : Nat) (z : Int) : Prop := ∃ fs, w[a]? = some (.inr (ci, fs)) ∧ fs[j]? = some (.long (jL z))
def fR (w : xW) (a ci j b : Nat) : Prop := ∃ fs, w[a]? = some (.inr (ci, fs)) ∧ fs[j]? = some (.ref b)
def isO (w : xW) (a ci : Nat) : Prop := ∃ fs, w[a]? = some (.inr (ci, fs))
def hasF (w : xW) (a ci j : Nat) : Prop := ∃ fs, w[a]? = some (.inr (ci, fs)) ∧ j < fs.length
def rI (w : xW) (a i : Nat) (z : Int) : Prop := ∃ n f, w[a]? = some (aI n f) ∧ n ≤ 1000000 ∧ i < n ∧ f i = jI z
def rL (w : xW) (a i : Nat) (z : Int) : Prop := ∃ n f, w[a]? = some (aL n f) ∧ n ≤ 1000000 ∧ i < n ∧ f i = jL z
def hasI (w : xW) (a i : Nat) : Prop := ∃ n f, w[a]? = some (aI n f) ∧ n ≤ 1000000 ∧ i < n
def hasL (w : xW) (a i : Nat) : Prop := ∃ n f, w[a]? = some (aL n f) ∧ n ≤ 1000000 ∧ i < n
def lenI (w : xW) (a n : Nat) : Prop := ∃ f, w[a]? = some (aI n f)
def lenL (w : xW) (a n : Nat) : Prop := ∃ f, w[a]? = some (aL n f)
def pF (w : xW) (a j : Nat) (v : Value) : xW := match w[a]? with
  | some (.inr (c, fs)) => w.set a (.inr (c, fs.set j v))
  | _ => w
def pI (w : xW) (a i : Nat) (v : Int32) : xW := match w[a]? with
  | some (.inl (.inl (n, f))) => w.set a (aI n (upd f i v))
  | _ => w
def pL (w : xW) (a i : Nat) (v : Int64) : xW := match w[a]? with
  | some (.inl (.inr (n, f))) => w.set a (aL n (vp_updL f i v))
  | _ => w
theorem pF_of {w : xW} {a j c : Nat} {v : Value} {fs : List Value} (h : w[a]? = some (.inr (c, fs))) : pF w a j v = w.set a (.inr (c, fs.set j v)) := by
  unfold pF
  rw [h]
theorem pI_of {w : xW} {a i n : Nat} {v : Int32} {f : Nat → Int32} (h : w[a]? = some (aI n f)) : pI w a i v = w.set a (aI n (upd f i v)) := by
  unfold pI
  rw [h]
  rfl
theorem pL_of {w : xW} {a i n : Nat} {v : Int64} {f : Nat → Int64} (h : w[a]? = some (aL n f)) : pL w a i v = w.set a (aL n (vp_updL f i v)) := by
  unfold pL
  rw [h]
  rfl
theorem aL_inj {n m : Nat} {f g : Nat → Int64} (h : aL n f = aL m g) : n = m ∧ f = g := by
  have h := Sum.inl.inj h
  have h := Sum.inr.inj h
  exact ⟨congrArg Prod.fst h, congrArg Prod.snd h⟩
theorem aI_inj {n m : Nat} {f g : Nat → Int32} (h : aI n f = aI m g) : n = m ∧ f = g := by
  have h := Sum.inl.inj h
  have h := Sum.inl.inj h
  exact ⟨congrArg Prod.fst h, congrArg Prod.snd h⟩
theorem aL_aI {n m : Nat} {f : Nat → Int64} {g : Nat → Int32} (h : aL n f = aI m g) {P : Prop} : P := by
  have h := Sum.inl.inj h
  cases h
theorem aL_o {n : Nat} {f : Nat → Int64} {x : Nat × List Value} (h : aL n f = .inr x) {P : Prop} : P := by cases h
theorem aI_o {n : Nat} {f : Nat → Int32} {x : Nat × List Value} (h : aI n f = .inr x) {P : Prop} : P := by cases h
theorem in3264 {a : Int} (h : in32 a) : in64 a := ⟨by have := h.1; omega, by have := h.2; omega⟩
theorem tmN {a b : Int} (h : 0 ≤ a) : Int.tmod a b = a % b := Int.tmod_eq_emod_of_nonneg h
theorem tdN {a b : Int} (h : 0 ≤ a) : Int.tdiv a b = a / b := Int.tdiv_eq_ediv_of_nonneg h
def prZl : List Int := [2, 3, 5, 7, 11, 13, 17, 19, 23, 29, 31, 37, 41, 43, 47, 53, 59, 61, 67, 71, 73, 79, 83, 89, 97, 101, 103, 107, 109, 113, 127, 131, 137, 139, 149, 151, 157, 163, 167, 173, 179, 181, 191, 193, 197, 199]
def prZ (j : Nat) : Int := prZl.getD j 0
theorem xpr_z : ∀ j, j < 46 → xpr j = jI (prZ j) := by decide +kernel
theorem prZ_all : ∀ q ∈ prZl, 0 ≤ q ∧ q < 200 := by decide +kernel
theorem prZ_le (j : Nat) : 0 ≤ prZ j ∧ prZ j < 200 := by
  unfold prZ
  rw [List.getD_eq_getElem?_getD]
  cases h : prZl[j]? with
  | none => decide
  | some q => exact prZ_all q (List.mem_of_getElem? h)
theorem prZ_in (j : Nat) : in32 (prZ j) := ⟨by have := prZ_le j; omega, by have := prZ_le j; omega⟩
theorem jI_len {n : Nat} : Int32.ofNat n = jI n := Int32.ofInt_eq_ofNat.symm
section GZ
variable {k pc pc' : Nat} {l l' : List (Option Value)} {st : List Value} {w : xW} {r : Option Value × xW} {a b z : Int}
theorem gz_iadd (hd : xcode k pc = some (.iadd, 1)) (hp : pc + 1 = pc') (h : xGo k pc' l (.int (jI (a + b)) :: st) w r) : xGo k pc l (.int (jI b) :: .int (jI a) :: st) w r := g_iadd hd hp (by rw [jI_add]; exact h)
theorem gz_isub (hd : xcode k pc = some (.isub, 1)) (hp : pc + 1 = pc') (h : xGo k pc' l (.int (jI (a - b)) :: st) w r) : xGo k pc l (.int (jI b) :: .int (jI a) :: st) w r := g_isub hd hp (by rw [jI_sub]; exact h)
theorem gz_imul (hd : xcode k pc = some (.imul, 1)) (hp : pc + 1 = pc') (h : xGo k pc' l (.int (jI (a * b)) :: st) w r) : xGo k pc l (.int (jI b) :: .int (jI a) :: st) w r := g_imul hd hp (by rw [jI_mul]; exact h)
theorem gz_ladd (hd : xcode k pc = some (.ladd, 1)) (hp : pc + 1 = pc') (h : xGo k pc' l (.long (jL (a + b)) :: st) w r) : xGo k pc l (.long (jL b) :: .long (jL a) :: st) w r := g_ladd hd hp (by rw [jL_add]; exact h)
theorem gz_lsub (hd : xcode k pc = some (.lsub, 1)) (hp : pc + 1 = pc') (h : xGo k pc' l (.long (jL (a - b)) :: st) w r) : xGo k pc l (.long (jL b) :: .long (jL a) :: st) w r := g_lsub hd hp (by rw [jL_sub]; exact h)
theorem gz_lmul (hd : xcode k pc = some (.lmul, 1)) (hp : pc + 1 = pc') (h : xGo k pc' l (.long (jL (a * b)) :: st) w r) : xGo k pc l (.long (jL b) :: .long (jL a) :: st) w r := g_lmul hd hp (by rw [jL_mul]; exact h)
theorem gz_ineg (hd : xcode k pc = some (.ineg, 1)) (hp : pc + 1 = pc') (h : xGo k pc' l (.int (jI (-a)) :: st) w r) : xGo k pc l (.int (jI a) :: st) w r := g_ineg hd hp (by rw [jI_neg]; exact h)
theorem gz_lneg (hd : xcode k pc = some (.lneg, 1)) (hp : pc + 1 = pc') (h : xGo k pc' l (.long (jL (-a)) :: st) w r) : xGo k pc l (.long (jL a) :: st) w r := g_lneg hd hp (by rw [jL_neg]; exact h)
theorem gz_i2l (hd : xcode k pc = some (.i2l, 1)) (hp : pc + 1 = pc') (ha : in32 a) (h : xGo k pc' l (.long (jL a) :: st) w r) : xGo k pc l (.int (jI a) :: st) w r := g_i2l hd hp (by rw [jI_toL ha]; exact h)
theorem gz_l2i (hd : xcode k pc = some (.l2i, 1)) (hp : pc + 1 = pc') (h : xGo k pc' l (.int (jI a) :: st) w r) : xGo k pc l (.long (jL a) :: st) w r := g_l2i hd hp (by rw [jL_toI]; exact h)
theorem gz_idiv (hd : xcode k pc = some (.idiv, 1)) (hp : pc + 1 = pc') (ha : in32 a) (hb : in32 b) (h0 : b ≠ 0) (hz : Int.tdiv a b = z) (h : xGo k pc' l (.int (jI z) :: st) w r) : xGo k pc l (.int (jI b) :: .int (jI a) :: st) w r := g_idiv hd hp (ne_I b 0 hb z32 h0) (by rw [jI_div ha hb, hz]; exact h)
theorem gz_irem (hd : xcode k pc = some (.irem, 1)) (hp : pc + 1 = pc') (ha : in32 a) (hb : in32 b) (h0 : b ≠ 0) (hz : Int.tmod a b = z) (h : xGo k pc' l (.int (jI z) :: st) w r) : xGo k pc l (.int (jI b) :: .int (jI a) :: st) w r := g_irem hd hp (ne_I b 0 hb z32 h0) (by rw [jI_rem ha hb, hz]; exact h)
theorem gz_ldiv (hd : xcode k pc = some (.ldiv, 1)) (hp : pc + 1 = pc') (ha : in64 a) (hb : in64 b) (h0 : b ≠ 0) (hz : Int.tdiv a b = z) (h : xGo k pc' l (.long (jL z) :: st) w r) : xGo k pc l (.long (jL b) :: .long (jL a) :: st) w r := g_ldiv hd hp (ne_L b 0 hb z64 h0) (by rw [jL_div ha hb, hz]; exact h)
theorem gz_lrem (hd : xcode k pc = some (.lrem, 1)) (hp : pc + 1 = pc') (ha : in64 a) (hb : in64 b) (h0 : b ≠ 0) (hz : Int.tmod a b = z) (h : xGo k pc' l (.long (jL z) :: st) w r) : xGo k pc l (.long (jL b) :: .long (jL a) :: st) w r := g_lrem hd hp (ne_L b 0 hb z64 h0) (by rw [jL_rem ha hb, hz]; exact h)
theorem gz_iand (hd : xcode k pc = some (.iand, 1)) (hp : pc + 1 = pc') (hz : jI a &&& jI b = jI z) (h : xGo k pc' l (.int (jI z) :: st) w r) : xGo k pc l (.int (jI b) :: .int (jI a) :: st) w r := g_iand hd hp (by rw [hz]; exact h)
theorem gz_ior (hd : xcode k pc = some (.ior, 1)) (hp : pc + 1 = pc') (hz : jI a ||| jI b = jI z) (h : xGo k pc' l (.int (jI z) :: st) w r) : xGo k pc l (.int (jI b) :: .int (jI a) :: st) w r := g_ior hd hp (by rw [hz]; exact h)
theorem gz_ishr (hd : xcode k pc = some (.ishr, 1)) (hp : pc + 1 = pc') (hz : jI a >>> (jI b &&& 31) = jI z) (h : xGo k pc' l (.int (jI z) :: st) w r) : xGo k pc l (.int (jI b) :: .int (jI a) :: st) w r := g_ishr hd hp (by rw [hz]; exact h)
theorem gz_land (hd : xcode k pc = some (.land, 1)) (hp : pc + 1 = pc') (hz : jL a &&& jL b = jL z) (h : xGo k pc' l (.long (jL z) :: st) w r) : xGo k pc l (.long (jL b) :: .long (jL a) :: st) w r := g_land hd hp (by rw [hz]; exact h)
theorem gz_lor (hd : xcode k pc = some (.lor, 1)) (hp : pc + 1 = pc') (hz : jL a ||| jL b = jL z) (h : xGo k pc' l (.long (jL z) :: st) w r) : xGo k pc l (.long (jL b) :: .long (jL a) :: st) w r := g_lor hd hp (by rw [hz]; exact h)
theorem gz_lxor (hd : xcode k pc = some (.lxor, 1)) (hp : pc + 1 = pc') (hz : jL a ^^^ jL b = jL z) (h : xGo k pc' l (.long (jL z) :: st) w r) : xGo k pc l (.long (jL b) :: .long (jL a) :: st) w r := g_lxor hd hp (by rw [hz]; exact h)
theorem gz_lshl (hd : xcode k pc = some (.lshl, 1)) (hp : pc + 1 = pc') (hz : jL a <<< ((jI b).toInt64 &&& 63) = jL z) (h : xGo k pc' l (.long (jL z) :: st) w r) : xGo k pc l (.int (jI b) :: .long (jL a) :: st) w r := g_lshl hd hp (by rw [hz]; exact h)
theorem gz_lshr (hd : xcode k pc = some (.lshr, 1)) (hp : pc + 1 = pc') (hz : jL a >>> ((jI b).toInt64 &&& 63) = jL z) (h : xGo k pc' l (.long (jL z) :: st) w r) : xGo k pc l (.int (jI b) :: .long (jL a) :: st) w r := g_lshr hd hp (by rw [hz]; exact h)
theorem gz_iinc {n : Nat} {d : Int} (hd : xcode k pc = some (.iinc n d, 3)) (hp : pc + 3 = pc') (hx : l[n]? = some (some (.int (jI a)))) {M : Nat} (hm : xml k = M) (hn : Nat.blt n M = true) (hl : xst1 l n (.int (jI (a + d))) = l') (h : xGo k pc' l' st w r) : xGo k pc l st w r := g_iinc hd hp hx rfl hm hn (by rw [jI_add]; exact hl) h
theorem gz_idec {n : Nat} {d c : Int} (hd : xcode k pc = some (.iinc n d, 3)) (hp : pc + 3 = pc') (hx : l[n]? = some (some (.int (jI a)))) {M : Nat} (hm : xml k = M) (hn : Nat.blt n M = true) (hl : xst1 l n (.int (jI (a - c))) = l') (h : xGo k pc' l' st w r) (hc : d = -c := by decide) : xGo k pc l st w r := g_iinc hd hp hx rfl hm hn (by subst hc; rw [jI_add, ← Int.sub_eq_add_neg]; exact hl) h
theorem gz_ic_eq {off : Int} {pt : Nat} (hd : xcode k pc = some (.if_icmp .eq off, 3)) (hz : (pc : Int) + off = (pt : Int)) (hp : pc + 3 = pc') (ha : in32 a) (hb : in32 b) (ht : a = b → xGo k pt l st w r) (hf : a ≠ b → xGo k pc' l st w r) : xGo k pc l (.int (jI b) :: .int (jI a) :: st) w r := g_ic_eq hd hz hp (fun c => ht ((jI_eq ha hb).mp c)) (fun c => hf (fun e => c ((jI_eq ha hb).mpr e)))
theorem gz_lc_eq {off : Int} {pm pt : Nat} (hd : xcode k pc = some (.lcmp, 1)) (hq : pc + 1 = pm) (hd2 : xcode k pm = some (.ifCond .eq off, 3)) (hz : (pm : Int) + off = (pt : Int)) (hp : pm + 3 = pc') (ha : in64 a) (hb : in64 b) (ht : a = b → xGo k pt l st w r) (hf : a ≠ b → xGo k pc' l st w r) : xGo k pc l (.long (jL b) :: .long (jL a) :: st) w r := g_lc_eq hd hq hd2 hz hp (fun c => ht ((jL_eq ha hb).mp c)) (fun c => hf (fun e => c ((jL_eq ha hb).mpr e)))
theorem gz_if_eq {off : Int} {pt : Nat} (hd : xcode k pc = some (.ifCond .eq off, 3)) (hz : (pc : Int) + off = (pt : Int)) (hp : pc + 3 = pc') (ha : in32 a) (ht : a = 0 → xGo k pt l st w r) (hf : a ≠ 0 → xGo k pc' l st w r) : xGo k pc l (.int (jI a) :: st) w r := g_if_eq hd hz hp (fun c => ht ((jI_eq ha z32).mp c)) (fun c => hf (fun e => c ((jI_eq ha z32).mpr e)))
theorem gz_ic_ne {off : Int} {pt : Nat} (hd : xcode k pc = some (.if_icmp .ne off, 3)) (hz : (pc : Int) + off = (pt : Int)) (hp : pc + 3 = pc') (ha : in32 a) (hb : in32 b) (ht : a ≠ b → xGo k pt l st w r) (hf : a = b → xGo k pc' l st w r) : xGo k pc l (.int (jI b) :: .int (jI a) :: st) w r := g_ic_ne hd hz hp (fun c => ht (fun e => c ((jI_eq ha hb).mpr e))) (fun c => hf ((jI_eq ha hb).mp (Decidable.not_not.mp c)))
theorem gz_lc_ne {off : Int} {pm pt : Nat} (hd : xcode k pc = some (.lcmp, 1)) (hq : pc + 1 = pm) (hd2 : xcode k pm = some (.ifCond .ne off, 3)) (hz : (pm : Int) + off = (pt : Int)) (hp : pm + 3 = pc') (ha : in64 a) (hb : in64 b) (ht : a ≠ b → xGo k pt l st w r) (hf : a = b → xGo k pc' l st w r) : xGo k pc l (.long (jL b) :: .long (jL a) :: st) w r := g_lc_ne hd hq hd2 hz hp (fun c => ht (fun e => c ((jL_eq ha hb).mpr e))) (fun c => hf ((jL_eq ha hb).mp (Decidable.not_not.mp c)))
theorem gz_if_ne {off : Int} {pt : Nat} (hd : xcode k pc = some (.ifCond .ne off, 3)) (hz : (pc : Int) + off = (pt : Int)) (hp : pc + 3 = pc') (ha : in32 a) (ht : a ≠ 0 → xGo k pt l st w r) (hf : a = 0 → xGo k pc' l st w r) : xGo k pc l (.int (jI a) :: st) w r := g_if_ne hd hz hp (fun c => ht (fun e => c ((jI_eq ha z32).mpr e))) (fun c => hf ((jI_eq ha z32).mp (Decidable.not_not.mp c)))
theorem gz_ic_lt {off : Int} {pt : Nat} (hd : xcode k pc = some (.if_icmp .lt off, 3)) (hz : (pc : Int) + off = (pt : Int)) (hp : pc + 3 = pc') (ha : in32 a) (hb : in32 b) (ht : a < b → xGo k pt l st w r) (hf : b ≤ a → xGo k pc' l st w r) : xGo k pc l (.int (jI b) :: .int (jI a) :: st) w r := g_ic_lt hd hz hp (fun c => ht ((jI_lt ha hb).mp c)) (fun c => hf (Int.le_of_not_gt (fun e => c ((jI_lt ha hb).mpr e))))
theorem gz_lc_lt {off : Int} {pm pt : Nat} (hd : xcode k pc = some (.lcmp, 1)) (hq : pc + 1 = pm) (hd2 : xcode k pm = some (.ifCond .lt off, 3)) (hz : (pm : Int) + off = (pt : Int)) (hp : pm + 3 = pc') (ha : in64 a) (hb : in64 b) (ht : a < b → xGo k pt l st w r) (hf : b ≤ a → xGo k pc' l st w r) : xGo k pc l (.long (jL b) :: .long (jL a) :: st) w r := g_lc_lt hd hq hd2 hz hp (fun c => ht ((jL_lt ha hb).mp c)) (fun c => hf (Int.le_of_not_gt (fun e => c ((jL_lt ha hb).mpr e))))
theorem gz_if_lt {off : Int} {pt : Nat} (hd : xcode k pc = some (.ifCond .lt off, 3)) (hz : (pc : Int) + off = (pt : Int)) (hp : pc + 3 = pc') (ha : in32 a) (ht : a < 0 → xGo k pt l st w r) (hf : 0 ≤ a → xGo k pc' l st w r) : xGo k pc l (.int (jI a) :: st) w r := g_if_lt hd hz hp (fun c => ht ((jI_lt ha z32).mp c)) (fun c => hf (Int.le_of_not_gt (fun e => c ((jI_lt ha z32).mpr e))))
theorem gz_ic_ge {off : Int} {pt : Nat} (hd : xcode k pc = some (.if_icmp .ge off, 3)) (hz : (pc : Int) + off = (pt : Int)) (hp : pc + 3 = pc') (ha : in32 a) (hb : in32 b) (ht : b ≤ a → xGo k pt l st w r) (hf : a < b → xGo k pc' l st w r) : xGo k pc l (.int (jI b) :: .int (jI a) :: st) w r := g_ic_ge hd hz hp (fun c => ht ((jI_le hb ha).mp c)) (fun c => hf (Int.lt_of_not_ge (fun e => c ((jI_le hb ha).mpr e))))
theorem gz_lc_ge {off : Int} {pm pt : Nat} (hd : xcode k pc = some (.lcmp, 1)) (hq : pc + 1 = pm) (hd2 : xcode k pm = some (.ifCond .ge off, 3)) (hz : (pm : Int) + off = (pt : Int)) (hp : pm + 3 = pc') (ha : in64 a) (hb : in64 b) (ht : b ≤ a → xGo k pt l st w r) (hf : a < b → xGo k pc' l st w r) : xGo k pc l (.long (jL b) :: .long (jL a) :: st) w r := g_lc_ge hd hq hd2 hz hp (fun c => ht ((jL_le hb ha).mp c)) (fun c => hf (Int.lt_of_not_ge (fun e => c ((jL_le hb ha).mpr e))))
theorem gz_if_ge {off : Int} {pt : Nat} (hd : xcode k pc = some (.ifCond .ge off, 3)) (hz : (pc : Int) + off = (pt : Int)) (hp : pc + 3 = pc') (ha : in32 a) (ht : 0 ≤ a → xGo k pt l st w r) (hf : a < 0 → xGo k pc' l st w r) : xGo k pc l (.int (jI a) :: st) w r := g_if_ge hd hz hp (fun c => ht ((jI_le z32 ha).mp c)) (fun c => hf (Int.lt_of_not_ge (fun e => c ((jI_le z32 ha).mpr e))))
theorem gz_ic_gt {off : Int} {pt : Nat} (hd : xcode k pc = some (.if_icmp .gt off, 3)) (hz : (pc : Int) + off = (pt : Int)) (hp : pc + 3 = pc') (ha : in32 a) (hb : in32 b) (ht : b < a → xGo k pt l st w r) (hf : a ≤ b → xGo k pc' l st w r) : xGo k pc l (.int (jI b) :: .int (jI a) :: st) w r := g_ic_gt hd hz hp (fun c => ht ((jI_lt hb ha).mp c)) (fun c => hf (Int.le_of_not_gt (fun e => c ((jI_lt hb ha).mpr e))))
theorem gz_lc_gt {off : Int} {pm pt : Nat} (hd : xcode k pc = some (.lcmp, 1)) (hq : pc + 1 = pm) (hd2 : xcode k pm = some (.ifCond .gt off, 3)) (hz : (pm : Int) + off = (pt : Int)) (hp : pm + 3 = pc') (ha : in64 a) (hb : in64 b) (ht : b < a → xGo k pt l st w r) (hf : a ≤ b → xGo k pc' l st w r) : xGo k pc l (.long (jL b) :: .long (jL a) :: st) w r := g_lc_gt hd hq hd2 hz hp (fun c => ht ((jL_lt hb ha).mp c)) (fun c => hf (Int.le_of_not_gt (fun e => c ((jL_lt hb ha).mpr e))))
theorem gz_if_gt {off : Int} {pt : Nat} (hd : xcode k pc = some (.ifCond .gt off, 3)) (hz : (pc : Int) + off = (pt : Int)) (hp : pc + 3 = pc') (ha : in32 a) (ht : 0 < a → xGo k pt l st w r) (hf : a ≤ 0 → xGo k pc' l st w r) : xGo k pc l (.int (jI a) :: st) w r := g_if_gt hd hz hp (fun c => ht ((jI_lt z32 ha).mp c)) (fun c => hf (Int.le_of_not_gt (fun e => c ((jI_lt z32 ha).mpr e))))
theorem gz_ic_le {off : Int} {pt : Nat} (hd : xcode k pc = some (.if_icmp .le off, 3)) (hz : (pc : Int) + off = (pt : Int)) (hp : pc + 3 = pc') (ha : in32 a) (hb : in32 b) (ht : a ≤ b → xGo k pt l st w r) (hf : b < a → xGo k pc' l st w r) : xGo k pc l (.int (jI b) :: .int (jI a) :: st) w r := g_ic_le hd hz hp (fun c => ht ((jI_le ha hb).mp c)) (fun c => hf (Int.lt_of_not_ge (fun e => c ((jI_le ha hb).mpr e))))
theorem gz_lc_le {off : Int} {pm pt : Nat} (hd : xcode k pc = some (.lcmp, 1)) (hq : pc + 1 = pm) (hd2 : xcode k pm = some (.ifCond .le off, 3)) (hz : (pm : Int) + off = (pt : Int)) (hp : pm + 3 = pc') (ha : in64 a) (hb : in64 b) (ht : a ≤ b → xGo k pt l st w r) (hf : b < a → xGo k pc' l st w r) : xGo k pc l (.long (jL b) :: .long (jL a) :: st) w r := g_lc_le hd hq hd2 hz hp (fun c => ht ((jL_le ha hb).mp c)) (fun c => hf (Int.lt_of_not_ge (fun e => c ((jL_le ha hb).mpr e))))
theorem gz_if_le {off : Int} {pt : Nat} (hd : xcode k pc = some (.ifCond .le off, 3)) (hz : (pc : Int) + off = (pt : Int)) (hp : pc + 3 = pc') (ha : in32 a) (ht : a ≤ 0 → xGo k pt l st w r) (hf : 0 < a → xGo k pc' l st w r) : xGo k pc l (.int (jI a) :: st) w r := g_if_le hd hz hp (fun c => ht ((jI_le ha z32).mp c)) (fun c => hf (Int.lt_of_not_ge (fun e => c ((jI_le ha z32).mpr e))))
theorem gz_bt_eq {Q : Prop} {_ : Decidable Q} {off : Int} {pt : Nat} (hd : xcode k pc = some (.ifCond .eq off, 3)) (hz : (pc : Int) + off = (pt : Int)) (hp : pc + 3 = pc') (ht : ¬ Q → xGo k pt l st w r) (hf : Q → xGo k pc' l st w r) : xGo k pc l (.int (bz Q) :: st) w r := g_if_eq hd hz hp (bz_0 ht hf).1 (bz_0 ht hf).2
theorem gz_bt_ne {Q : Prop} {_ : Decidable Q} {off : Int} {pt : Nat} (hd : xcode k pc = some (.ifCond .ne off, 3)) (hz : (pc : Int) + off = (pt : Int)) (hp : pc + 3 = pc') (ht : Q → xGo k pt l st w r) (hf : ¬ Q → xGo k pc' l st w r) : xGo k pc l (.int (bz Q) :: st) w r := g_if_ne hd hz hp (bz_n ht hf).1 (bz_n ht hf).2
theorem gz_getI {ix ci j x : Nat} {c : Int} (hd : xcode k pc = some (.getfield ix, 3)) (hp : pc + 3 = pc') (hs : xsite k ix = some (4, ci, j, c)) (hz : fI w x ci j z) (h : xGo k pc' l (.int (jI z) :: st) w r) : xGo k pc l (.ref x :: st) w r := by
  obtain ⟨fs, h1, h2⟩ := hz
  exact g_getf hd hp hs h1 h2 h
theorem gz_getJ {ix ci j x : Nat} {c : Int} (hd : xcode k pc = some (.getfield ix, 3)) (hp : pc + 3 = pc') (hs : xsite k ix = some (4, ci, j, c)) (hz : fJ w x ci j z) (h : xGo k pc' l (.long (jL z) :: st) w r) : xGo k pc l (.ref x :: st) w r := by
  obtain ⟨fs, h1, h2⟩ := hz
  exact g_getf hd hp hs h1 h2 h
theorem gz_getR {ix ci j x y : Nat} {c : Int} (hd : xcode k pc = some (.getfield ix, 3)) (hp : pc + 3 = pc') (hs : xsite k ix = some (4, ci, j, c)) (hz : fR w x ci j y) (h : xGo k pc' l (.ref y :: st) w r) : xGo k pc l (.ref x :: st) w r := by
  obtain ⟨fs, h1, h2⟩ := hz
  exact g_getf hd hp hs h1 h2 h
theorem gz_putf {ix ci j x : Nat} {c : Int} {v : Value} {ty : FieldType} {fd : String × String × String × Bool} (hd : xcode k pc = some (.putfield ix, 3)) (hp : pc + 3 = pc') (hs : xsite k ix = some (4, ci, j, c)) (ht : (xts.getD ci [])[j]? = some ty) (hf : (xfs.getD ci [])[j]? = some fd) (hfit : xfits ty v = true) (hfin : fd.2.2.2 = false ∨ (xy k).name = "<init>" ∧ fd.1 = (xy k).cls) (hw : hasF w x ci j) (h : xGo k pc' l st (pF w x j v) r) : xGo k pc l (v :: .ref x :: st) w r := by
  obtain ⟨fs, h1, h2⟩ := hw
  rw [pF_of h1] at h
  exact g_putf hd hp hs ht hf hfit hfin h1 h2 h
theorem gz_pald (hd : xcode k pc = some (.iaload, 1)) (hp : pc + 1 = pc') (hw : w[xP]? = none) (hi : 0 ≤ a ∧ a < 46) (h : xGo k pc' l (.int (jI (prZ a.toNat)) :: st) w r) : xGo k pc l (.int (jI a) :: .ref xP :: st) w r := by
  have ha : in32 a := s32
  refine g_pald hd hp hw (jI_in ha hi.1 hi.2) ?_
  rw [jI_nat ha, xpr_z _ (by omega)]
  exact h
theorem gz_iald {x : Nat} (hd : xcode k pc = some (.iaload, 1)) (hp : pc + 1 = pc') (hi : 0 ≤ a) (hv : rI w x a.toNat z) (h : xGo k pc' l (.int (jI z) :: st) w r) : xGo k pc l (.int (jI a) :: .ref x :: st) w r := by
  obtain ⟨n, f, h1, h2, h3, h4⟩ := hv
  have ha : in32 a := s32
  refine g_iald hd hp h1 (jI_in ha hi (by omega)) ?_
  rw [jI_nat ha, h4]
  exact h
theorem gz_lald {x : Nat} (hd : xcode k pc = some (.laload, 1)) (hp : pc + 1 = pc') (hi : 0 ≤ a) (hv : rL w x a.toNat z) (h : xGo k pc' l (.long (jL z) :: st) w r) : xGo k pc l (.int (jI a) :: .ref x :: st) w r := by
  obtain ⟨n, f, h1, h2, h3, h4⟩ := hv
  have ha : in32 a := s32
  refine g_lald hd hp h1 (jI_in ha hi (by omega)) ?_
  rw [jI_nat ha, h4]
  exact h
theorem gz_iast {x : Nat} {v : Int32} (hd : xcode k pc = some (.iastore, 1)) (hp : pc + 1 = pc') (hi : 0 ≤ a ∧ hasI w x a.toNat) (h : xGo k pc' l st (pI w x a.toNat v) r) : xGo k pc l (.int v :: .int (jI a) :: .ref x :: st) w r := by
  obtain ⟨hi, n, f, h1, h2, h3⟩ := hi
  have ha : in32 a := s32
  refine g_iast hd hp h1 (jI_in ha hi (by omega)) ?_
  rw [jI_nat ha]
  rw [pI_of h1] at h
  exact h
theorem gz_last {x : Nat} {v : Int64} (hd : xcode k pc = some (.lastore, 1)) (hp : pc + 1 = pc') (hi : 0 ≤ a ∧ hasL w x a.toNat) (h : xGo k pc' l st (pL w x a.toNat v) r) : xGo k pc l (.long v :: .int (jI a) :: .ref x :: st) w r := by
  obtain ⟨hi, n, f, h1, h2, h3⟩ := hi
  have ha : in32 a := s32
  refine g_last hd hp h1 (jI_in ha hi (by omega)) ?_
  rw [jI_nat ha]
  rw [pL_of h1] at h
  exact h
theorem gz_leni {x n : Nat} {m : Int} (hd : xcode k pc = some (.arraylength, 1)) (hp : pc + 1 = pc') (hw : lenI w x n) (hm : (n : Int) = m) (h : xGo k pc' l (.int (jI m) :: st) w r) : xGo k pc l (.ref x :: st) w r := by
  obtain ⟨f, h1⟩ := hw
  refine g_leni hd hp h1 ?_
  rw [jI_len, hm]
  exact h
theorem gz_lenl {x n : Nat} {m : Int} (hd : xcode k pc = some (.arraylength, 1)) (hp : pc + 1 = pc') (hw : lenL w x n) (hm : (n : Int) = m) (h : xGo k pc' l (.int (jI m) :: st) w r) : xGo k pc l (.ref x :: st) w r := by
  obtain ⟨f, h1⟩ := hw
  refine g_lenl hd hp h1 ?_
  rw [jI_len, hm]
  exact h
theorem gz_callV {ix z b : Nat} {c : Int} {as rest : List Value} {v : Option Value} {w1 : xW} (hd : xcode k pc = some (.invokevirtual ix, 3)) (hp : pc + 3 = pc') (hs : xsite k ix = some (0, z, 0, c)) {N M : Nat} (hna : xna z = N) (hmz : xml z = M) (hst : st.drop N = .ref b :: rest) (has : .ref b :: (st.take N).reverse = as) (hl : Nat.ble (N + 1) st.length = true) (hr : xroom k z = true) (hc : Nat.ble (rest.map fun v => v.category).sum 8 = true) (he : Nat.ble (xent1 as).length M = true) {ci : Nat} (ho : xown z = ci) (hw : isO w b ci) (h1 : xCall z as w (v, w1)) (h2 : xGo k pc' l (v.toList ++ rest) w1 r) : xGo k pc l st w r := by
  obtain ⟨fs, hw⟩ := hw
  exact g_callV hd hp hs hna hmz hst has hl hr hc he ho hw h1 h2
end GZ
def eIs (e : Nat) : Prop := e = 7 ∨ e = 12 ∨ e = 17
def qIs (q : Nat) : Prop := q = 11 ∨ q = 16 ∨ q = 21 ∨ q = 36
theorem ko_0 {w : xW} (hC : CS w) : isO w 0 0 := by
  obtain ⟨c, h1, h2⟩ := hC.2 0 (by decide)
  obtain ⟨x0, rfl⟩ := h2
  exact ⟨_, h1⟩
theorem kr_0_0 {w : xW} (hC : CS w) : fR w 0 0 0 1 := by
  obtain ⟨c, h1, h2⟩ := hC.2 0 (by decide)
  obtain ⟨x0, rfl⟩ := h2
  exact ⟨_, h1, rfl⟩
theorem kr_0_1 {w : xW} (hC : CS w) : fR w 0 0 1 3 := by
  obtain ⟨c, h1, h2⟩ := hC.2 0 (by decide)
  obtain ⟨x0, rfl⟩ := h2
  exact ⟨_, h1, rfl⟩
theorem kr_0_2 {w : xW} (hC : CS w) : fR w 0 0 2 4 := by
  obtain ⟨c, h1, h2⟩ := hC.2 0 (by decide)
  obtain ⟨x0, rfl⟩ := h2
  exact ⟨_, h1, rfl⟩
theorem kr_0_3 {w : xW} (hC : CS w) : fR w 0 0 3 7 := by
  obtain ⟨c, h1, h2⟩ := hC.2 0 (by decide)
  obtain ⟨x0, rfl⟩ := h2
  exact ⟨_, h1, rfl⟩
theorem kr_0_4 {w : xW} (hC : CS w) : fR w 0 0 4 12 := by
  obtain ⟨c, h1, h2⟩ := hC.2 0 (by decide)
  obtain ⟨x0, rfl⟩ := h2
  exact ⟨_, h1, rfl⟩
theorem kr_0_5 {w : xW} (hC : CS w) : fR w 0 0 5 17 := by
  obtain ⟨c, h1, h2⟩ := hC.2 0 (by decide)
  obtain ⟨x0, rfl⟩ := h2
  exact ⟨_, h1, rfl⟩
theorem kr_0_6 {w : xW} (hC : CS w) : fR w 0 0 6 22 := by
  obtain ⟨c, h1, h2⟩ := hC.2 0 (by decide)
  obtain ⟨x0, rfl⟩ := h2
  exact ⟨_, h1, rfl⟩
theorem kf_0_7 {w : xW} (hC : CS w) : hasF w 0 0 7 := by
  obtain ⟨c, h1, h2⟩ := hC.2 0 (by decide)
  obtain ⟨x0, rfl⟩ := h2
  exact ⟨_, h1, Nat.le_of_ble_eq_true rfl⟩
theorem ks_0_7 {w : xW} {v : Int32} (hC : CS w) : CS (pF w 0 7 (.int v)) := by
  have hC2 := hC
  obtain ⟨c, h1, h2⟩ := hC.2 0 (by decide)
  obtain ⟨x0, rfl⟩ := h2
  rw [pF_of h1]
  exact hC2.set (⟨_, rfl⟩)
theorem kr_0_8 {w : xW} (hC : CS w) : fR w 0 0 8 23 := by
  obtain ⟨c, h1, h2⟩ := hC.2 0 (by decide)
  obtain ⟨x0, rfl⟩ := h2
  exact ⟨_, h1, rfl⟩
theorem kr_0_9 {w : xW} (hC : CS w) : fR w 0 0 9 24 := by
  obtain ⟨c, h1, h2⟩ := hC.2 0 (by decide)
  obtain ⟨x0, rfl⟩ := h2
  exact ⟨_, h1, rfl⟩
theorem kr_0_10 {w : xW} (hC : CS w) : fR w 0 0 10 28 := by
  obtain ⟨c, h1, h2⟩ := hC.2 0 (by decide)
  obtain ⟨x0, rfl⟩ := h2
  exact ⟨_, h1, rfl⟩
theorem kr_0_11 {w : xW} (hC : CS w) : fR w 0 0 11 31 := by
  obtain ⟨c, h1, h2⟩ := hC.2 0 (by decide)
  obtain ⟨x0, rfl⟩ := h2
  exact ⟨_, h1, rfl⟩
theorem kr_0_12 {w : xW} (hC : CS w) : fR w 0 0 12 34 := by
  obtain ⟨c, h1, h2⟩ := hC.2 0 (by decide)
  obtain ⟨x0, rfl⟩ := h2
  exact ⟨_, h1, rfl⟩
theorem kr_0_13 {w : xW} (hC : CS w) : fR w 0 0 13 36 := by
  obtain ⟨c, h1, h2⟩ := hC.2 0 (by decide)
  obtain ⟨x0, rfl⟩ := h2
  exact ⟨_, h1, rfl⟩
theorem kr_0_14 {w : xW} (hC : CS w) : fR w 0 0 14 37 := by
  obtain ⟨c, h1, h2⟩ := hC.2 0 (by decide)
  obtain ⟨x0, rfl⟩ := h2
  exact ⟨_, h1, rfl⟩
theorem kr_0_15 {w : xW} (hC : CS w) : fR w 0 0 15 38 := by
  obtain ⟨c, h1, h2⟩ := hC.2 0 (by decide)
  obtain ⟨x0, rfl⟩ := h2
  exact ⟨_, h1, rfl⟩
theorem ko_1 {w : xW} (hC : CS w) : isO w 1 1 := by
  obtain ⟨c, h1, h2⟩ := hC.2 1 (by decide)
  cases h2
  exact ⟨_, h1⟩
theorem kr_1_0 {w : xW} (hC : CS w) : fR w 1 1 0 2 := by
  obtain ⟨c, h1, h2⟩ := hC.2 1 (by decide)
  cases h2
  exact ⟨_, h1, rfl⟩
theorem ko_3 {w : xW} (hC : CS w) : isO w 3 2 := by
  obtain ⟨c, h1, h2⟩ := hC.2 3 (by decide)
  obtain ⟨x0, x1, x2, rfl⟩ := h2
  exact ⟨_, h1⟩
theorem kf_3_0 {w : xW} (hC : CS w) : hasF w 3 2 0 := by
  obtain ⟨c, h1, h2⟩ := hC.2 3 (by decide)
  obtain ⟨x0, x1, x2, rfl⟩ := h2
  exact ⟨_, h1, Nat.le_of_ble_eq_true rfl⟩
theorem ks_3_0 {w : xW} {v : Int64} (hC : CS w) : CS (pF w 3 0 (.long v)) := by
  have hC2 := hC
  obtain ⟨c, h1, h2⟩ := hC.2 3 (by decide)
  obtain ⟨x0, x1, x2, rfl⟩ := h2
  rw [pF_of h1]
  exact hC2.set (⟨_, _, _, rfl⟩)
theorem kf_3_1 {w : xW} (hC : CS w) : hasF w 3 2 1 := by
  obtain ⟨c, h1, h2⟩ := hC.2 3 (by decide)
  obtain ⟨x0, x1, x2, rfl⟩ := h2
  exact ⟨_, h1, Nat.le_of_ble_eq_true rfl⟩
theorem ks_3_1 {w : xW} {v : Int64} (hC : CS w) : CS (pF w 3 1 (.long v)) := by
  have hC2 := hC
  obtain ⟨c, h1, h2⟩ := hC.2 3 (by decide)
  obtain ⟨x0, x1, x2, rfl⟩ := h2
  rw [pF_of h1]
  exact hC2.set (⟨_, _, _, rfl⟩)
theorem kf_3_2 {w : xW} (hC : CS w) : hasF w 3 2 2 := by
  obtain ⟨c, h1, h2⟩ := hC.2 3 (by decide)
  obtain ⟨x0, x1, x2, rfl⟩ := h2
  exact ⟨_, h1, Nat.le_of_ble_eq_true rfl⟩
theorem ks_3_2 {w : xW} {v : Int64} (hC : CS w) : CS (pF w 3 2 (.long v)) := by
  have hC2 := hC
  obtain ⟨c, h1, h2⟩ := hC.2 3 (by decide)
  obtain ⟨x0, x1, x2, rfl⟩ := h2
  rw [pF_of h1]
  exact hC2.set (⟨_, _, _, rfl⟩)
theorem ko_4 {w : xW} (hC : CS w) : isO w 4 3 := by
  obtain ⟨c, h1, h2⟩ := hC.2 4 (by decide)
  obtain ⟨x0, rfl⟩ := h2
  exact ⟨_, h1⟩
theorem kr_4_0 {w : xW} (hC : CS w) : fR w 4 3 0 5 := by
  obtain ⟨c, h1, h2⟩ := hC.2 4 (by decide)
  obtain ⟨x0, rfl⟩ := h2
  exact ⟨_, h1, rfl⟩
theorem kr_4_1 {w : xW} (hC : CS w) : fR w 4 3 1 6 := by
  obtain ⟨c, h1, h2⟩ := hC.2 4 (by decide)
  obtain ⟨x0, rfl⟩ := h2
  exact ⟨_, h1, rfl⟩
theorem kf_4_2 {w : xW} (hC : CS w) : hasF w 4 3 2 := by
  obtain ⟨c, h1, h2⟩ := hC.2 4 (by decide)
  obtain ⟨x0, rfl⟩ := h2
  exact ⟨_, h1, Nat.le_of_ble_eq_true rfl⟩
theorem ks_4_2 {w : xW} {v : Int32} (hC : CS w) : CS (pF w 4 2 (.int v)) := by
  have hC2 := hC
  obtain ⟨c, h1, h2⟩ := hC.2 4 (by decide)
  obtain ⟨x0, rfl⟩ := h2
  rw [pF_of h1]
  exact hC2.set (⟨_, rfl⟩)
theorem ko_7 {w : xW} (hC : CS w) : isO w 7 4 := by
  obtain ⟨c, h1, h2⟩ := hC.2 7 (by decide)
  cases h2
  exact ⟨_, h1⟩
theorem kr_7_0 {w : xW} (hC : CS w) : fR w 7 4 0 8 := by
  obtain ⟨c, h1, h2⟩ := hC.2 7 (by decide)
  cases h2
  exact ⟨_, h1, rfl⟩
theorem kr_7_1 {w : xW} (hC : CS w) : fR w 7 4 1 9 := by
  obtain ⟨c, h1, h2⟩ := hC.2 7 (by decide)
  cases h2
  exact ⟨_, h1, rfl⟩
theorem kr_7_2 {w : xW} (hC : CS w) : fR w 7 4 2 10 := by
  obtain ⟨c, h1, h2⟩ := hC.2 7 (by decide)
  cases h2
  exact ⟨_, h1, rfl⟩
theorem kr_7_3 {w : xW} (hC : CS w) : fR w 7 4 3 11 := by
  obtain ⟨c, h1, h2⟩ := hC.2 7 (by decide)
  cases h2
  exact ⟨_, h1, rfl⟩
theorem ko_11 {w : xW} (hC : CS w) : isO w 11 5 := by
  obtain ⟨c, h1, h2⟩ := hC.2 11 (by decide)
  obtain ⟨x0, x1, x2, rfl⟩ := h2
  exact ⟨_, h1⟩
theorem kf_11_0 {w : xW} (hC : CS w) : hasF w 11 5 0 := by
  obtain ⟨c, h1, h2⟩ := hC.2 11 (by decide)
  obtain ⟨x0, x1, x2, rfl⟩ := h2
  exact ⟨_, h1, Nat.le_of_ble_eq_true rfl⟩
theorem ks_11_0 {w : xW} {v : Int64} (hC : CS w) : CS (pF w 11 0 (.long v)) := by
  have hC2 := hC
  obtain ⟨c, h1, h2⟩ := hC.2 11 (by decide)
  obtain ⟨x0, x1, x2, rfl⟩ := h2
  rw [pF_of h1]
  exact hC2.set (⟨_, _, _, rfl⟩)
theorem kf_11_1 {w : xW} (hC : CS w) : hasF w 11 5 1 := by
  obtain ⟨c, h1, h2⟩ := hC.2 11 (by decide)
  obtain ⟨x0, x1, x2, rfl⟩ := h2
  exact ⟨_, h1, Nat.le_of_ble_eq_true rfl⟩
theorem ks_11_1 {w : xW} {v : Int64} (hC : CS w) : CS (pF w 11 1 (.long v)) := by
  have hC2 := hC
  obtain ⟨c, h1, h2⟩ := hC.2 11 (by decide)
  obtain ⟨x0, x1, x2, rfl⟩ := h2
  rw [pF_of h1]
  exact hC2.set (⟨_, _, _, rfl⟩)
theorem kf_11_2 {w : xW} (hC : CS w) : hasF w 11 5 2 := by
  obtain ⟨c, h1, h2⟩ := hC.2 11 (by decide)
  obtain ⟨x0, x1, x2, rfl⟩ := h2
  exact ⟨_, h1, Nat.le_of_ble_eq_true rfl⟩
theorem ks_11_2 {w : xW} {v : Int64} (hC : CS w) : CS (pF w 11 2 (.long v)) := by
  have hC2 := hC
  obtain ⟨c, h1, h2⟩ := hC.2 11 (by decide)
  obtain ⟨x0, x1, x2, rfl⟩ := h2
  rw [pF_of h1]
  exact hC2.set (⟨_, _, _, rfl⟩)
theorem ko_12 {w : xW} (hC : CS w) : isO w 12 4 := by
  obtain ⟨c, h1, h2⟩ := hC.2 12 (by decide)
  cases h2
  exact ⟨_, h1⟩
theorem kr_12_0 {w : xW} (hC : CS w) : fR w 12 4 0 13 := by
  obtain ⟨c, h1, h2⟩ := hC.2 12 (by decide)
  cases h2
  exact ⟨_, h1, rfl⟩
theorem kr_12_1 {w : xW} (hC : CS w) : fR w 12 4 1 14 := by
  obtain ⟨c, h1, h2⟩ := hC.2 12 (by decide)
  cases h2
  exact ⟨_, h1, rfl⟩
theorem kr_12_2 {w : xW} (hC : CS w) : fR w 12 4 2 15 := by
  obtain ⟨c, h1, h2⟩ := hC.2 12 (by decide)
  cases h2
  exact ⟨_, h1, rfl⟩
theorem kr_12_3 {w : xW} (hC : CS w) : fR w 12 4 3 16 := by
  obtain ⟨c, h1, h2⟩ := hC.2 12 (by decide)
  cases h2
  exact ⟨_, h1, rfl⟩
theorem ko_16 {w : xW} (hC : CS w) : isO w 16 5 := by
  obtain ⟨c, h1, h2⟩ := hC.2 16 (by decide)
  obtain ⟨x0, x1, x2, rfl⟩ := h2
  exact ⟨_, h1⟩
theorem kf_16_0 {w : xW} (hC : CS w) : hasF w 16 5 0 := by
  obtain ⟨c, h1, h2⟩ := hC.2 16 (by decide)
  obtain ⟨x0, x1, x2, rfl⟩ := h2
  exact ⟨_, h1, Nat.le_of_ble_eq_true rfl⟩
theorem ks_16_0 {w : xW} {v : Int64} (hC : CS w) : CS (pF w 16 0 (.long v)) := by
  have hC2 := hC
  obtain ⟨c, h1, h2⟩ := hC.2 16 (by decide)
  obtain ⟨x0, x1, x2, rfl⟩ := h2
  rw [pF_of h1]
  exact hC2.set (⟨_, _, _, rfl⟩)
theorem kf_16_1 {w : xW} (hC : CS w) : hasF w 16 5 1 := by
  obtain ⟨c, h1, h2⟩ := hC.2 16 (by decide)
  obtain ⟨x0, x1, x2, rfl⟩ := h2
  exact ⟨_, h1, Nat.le_of_ble_eq_true rfl⟩
theorem ks_16_1 {w : xW} {v : Int64} (hC : CS w) : CS (pF w 16 1 (.long v)) := by
  have hC2 := hC
  obtain ⟨c, h1, h2⟩ := hC.2 16 (by decide)
  obtain ⟨x0, x1, x2, rfl⟩ := h2
  rw [pF_of h1]
  exact hC2.set (⟨_, _, _, rfl⟩)
theorem kf_16_2 {w : xW} (hC : CS w) : hasF w 16 5 2 := by
  obtain ⟨c, h1, h2⟩ := hC.2 16 (by decide)
  obtain ⟨x0, x1, x2, rfl⟩ := h2
  exact ⟨_, h1, Nat.le_of_ble_eq_true rfl⟩
theorem ks_16_2 {w : xW} {v : Int64} (hC : CS w) : CS (pF w 16 2 (.long v)) := by
  have hC2 := hC
  obtain ⟨c, h1, h2⟩ := hC.2 16 (by decide)
  obtain ⟨x0, x1, x2, rfl⟩ := h2
  rw [pF_of h1]
  exact hC2.set (⟨_, _, _, rfl⟩)
theorem ko_17 {w : xW} (hC : CS w) : isO w 17 4 := by
  obtain ⟨c, h1, h2⟩ := hC.2 17 (by decide)
  cases h2
  exact ⟨_, h1⟩
theorem kr_17_0 {w : xW} (hC : CS w) : fR w 17 4 0 18 := by
  obtain ⟨c, h1, h2⟩ := hC.2 17 (by decide)
  cases h2
  exact ⟨_, h1, rfl⟩
theorem kr_17_1 {w : xW} (hC : CS w) : fR w 17 4 1 19 := by
  obtain ⟨c, h1, h2⟩ := hC.2 17 (by decide)
  cases h2
  exact ⟨_, h1, rfl⟩
theorem kr_17_2 {w : xW} (hC : CS w) : fR w 17 4 2 20 := by
  obtain ⟨c, h1, h2⟩ := hC.2 17 (by decide)
  cases h2
  exact ⟨_, h1, rfl⟩
theorem kr_17_3 {w : xW} (hC : CS w) : fR w 17 4 3 21 := by
  obtain ⟨c, h1, h2⟩ := hC.2 17 (by decide)
  cases h2
  exact ⟨_, h1, rfl⟩
theorem ko_21 {w : xW} (hC : CS w) : isO w 21 5 := by
  obtain ⟨c, h1, h2⟩ := hC.2 21 (by decide)
  obtain ⟨x0, x1, x2, rfl⟩ := h2
  exact ⟨_, h1⟩
theorem kf_21_0 {w : xW} (hC : CS w) : hasF w 21 5 0 := by
  obtain ⟨c, h1, h2⟩ := hC.2 21 (by decide)
  obtain ⟨x0, x1, x2, rfl⟩ := h2
  exact ⟨_, h1, Nat.le_of_ble_eq_true rfl⟩
theorem ks_21_0 {w : xW} {v : Int64} (hC : CS w) : CS (pF w 21 0 (.long v)) := by
  have hC2 := hC
  obtain ⟨c, h1, h2⟩ := hC.2 21 (by decide)
  obtain ⟨x0, x1, x2, rfl⟩ := h2
  rw [pF_of h1]
  exact hC2.set (⟨_, _, _, rfl⟩)
theorem kf_21_1 {w : xW} (hC : CS w) : hasF w 21 5 1 := by
  obtain ⟨c, h1, h2⟩ := hC.2 21 (by decide)
  obtain ⟨x0, x1, x2, rfl⟩ := h2
  exact ⟨_, h1, Nat.le_of_ble_eq_true rfl⟩
theorem ks_21_1 {w : xW} {v : Int64} (hC : CS w) : CS (pF w 21 1 (.long v)) := by
  have hC2 := hC
  obtain ⟨c, h1, h2⟩ := hC.2 21 (by decide)
  obtain ⟨x0, x1, x2, rfl⟩ := h2
  rw [pF_of h1]
  exact hC2.set (⟨_, _, _, rfl⟩)
theorem kf_21_2 {w : xW} (hC : CS w) : hasF w 21 5 2 := by
  obtain ⟨c, h1, h2⟩ := hC.2 21 (by decide)
  obtain ⟨x0, x1, x2, rfl⟩ := h2
  exact ⟨_, h1, Nat.le_of_ble_eq_true rfl⟩
theorem ks_21_2 {w : xW} {v : Int64} (hC : CS w) : CS (pF w 21 2 (.long v)) := by
  have hC2 := hC
  obtain ⟨c, h1, h2⟩ := hC.2 21 (by decide)
  obtain ⟨x0, x1, x2, rfl⟩ := h2
  rw [pF_of h1]
  exact hC2.set (⟨_, _, _, rfl⟩)
theorem ko_23 {w : xW} (hC : CS w) : isO w 23 6 := by
  obtain ⟨c, h1, h2⟩ := hC.2 23 (by decide)
  cases h2
  exact ⟨_, h1⟩
theorem kr_23_0 {w : xW} (hC : CS w) : fR w 23 6 0 12 := by
  obtain ⟨c, h1, h2⟩ := hC.2 23 (by decide)
  cases h2
  exact ⟨_, h1, rfl⟩
theorem kr_23_1 {w : xW} (hC : CS w) : fR w 23 6 1 1 := by
  obtain ⟨c, h1, h2⟩ := hC.2 23 (by decide)
  cases h2
  exact ⟨_, h1, rfl⟩
theorem kr_23_2 {w : xW} (hC : CS w) : fR w 23 6 2 3 := by
  obtain ⟨c, h1, h2⟩ := hC.2 23 (by decide)
  cases h2
  exact ⟨_, h1, rfl⟩
theorem ko_24 {w : xW} (hC : CS w) : isO w 24 7 := by
  obtain ⟨c, h1, h2⟩ := hC.2 24 (by decide)
  obtain ⟨x0, rfl⟩ := h2
  exact ⟨_, h1⟩
theorem kr_24_0 {w : xW} (hC : CS w) : fR w 24 7 0 25 := by
  obtain ⟨c, h1, h2⟩ := hC.2 24 (by decide)
  obtain ⟨x0, rfl⟩ := h2
  exact ⟨_, h1, rfl⟩
theorem kr_24_1 {w : xW} (hC : CS w) : fR w 24 7 1 26 := by
  obtain ⟨c, h1, h2⟩ := hC.2 24 (by decide)
  obtain ⟨x0, rfl⟩ := h2
  exact ⟨_, h1, rfl⟩
theorem kr_24_2 {w : xW} (hC : CS w) : fR w 24 7 2 27 := by
  obtain ⟨c, h1, h2⟩ := hC.2 24 (by decide)
  obtain ⟨x0, rfl⟩ := h2
  exact ⟨_, h1, rfl⟩
theorem kf_24_3 {w : xW} (hC : CS w) : hasF w 24 7 3 := by
  obtain ⟨c, h1, h2⟩ := hC.2 24 (by decide)
  obtain ⟨x0, rfl⟩ := h2
  exact ⟨_, h1, Nat.le_of_ble_eq_true rfl⟩
theorem ks_24_3 {w : xW} {v : Int32} (hC : CS w) : CS (pF w 24 3 (.int v)) := by
  have hC2 := hC
  obtain ⟨c, h1, h2⟩ := hC.2 24 (by decide)
  obtain ⟨x0, rfl⟩ := h2
  rw [pF_of h1]
  exact hC2.set (⟨_, rfl⟩)
theorem ko_28 {w : xW} (hC : CS w) : isO w 28 8 := by
  obtain ⟨c, h1, h2⟩ := hC.2 28 (by decide)
  obtain ⟨x0, x1, rfl⟩ := h2
  exact ⟨_, h1⟩
theorem kr_28_0 {w : xW} (hC : CS w) : fR w 28 8 0 29 := by
  obtain ⟨c, h1, h2⟩ := hC.2 28 (by decide)
  obtain ⟨x0, x1, rfl⟩ := h2
  exact ⟨_, h1, rfl⟩
theorem kr_28_1 {w : xW} (hC : CS w) : fR w 28 8 1 30 := by
  obtain ⟨c, h1, h2⟩ := hC.2 28 (by decide)
  obtain ⟨x0, x1, rfl⟩ := h2
  exact ⟨_, h1, rfl⟩
theorem kf_28_2 {w : xW} (hC : CS w) : hasF w 28 8 2 := by
  obtain ⟨c, h1, h2⟩ := hC.2 28 (by decide)
  obtain ⟨x0, x1, rfl⟩ := h2
  exact ⟨_, h1, Nat.le_of_ble_eq_true rfl⟩
theorem ks_28_2 {w : xW} {v : Int32} (hC : CS w) : CS (pF w 28 2 (.int v)) := by
  have hC2 := hC
  obtain ⟨c, h1, h2⟩ := hC.2 28 (by decide)
  obtain ⟨x0, x1, rfl⟩ := h2
  rw [pF_of h1]
  exact hC2.set (⟨_, _, rfl⟩)
theorem kf_28_3 {w : xW} (hC : CS w) : hasF w 28 8 3 := by
  obtain ⟨c, h1, h2⟩ := hC.2 28 (by decide)
  obtain ⟨x0, x1, rfl⟩ := h2
  exact ⟨_, h1, Nat.le_of_ble_eq_true rfl⟩
theorem ks_28_3 {w : xW} {v : Int32} (hC : CS w) : CS (pF w 28 3 (.int v)) := by
  have hC2 := hC
  obtain ⟨c, h1, h2⟩ := hC.2 28 (by decide)
  obtain ⟨x0, x1, rfl⟩ := h2
  rw [pF_of h1]
  exact hC2.set (⟨_, _, rfl⟩)
theorem ko_31 {w : xW} (hC : CS w) : isO w 31 9 := by
  obtain ⟨c, h1, h2⟩ := hC.2 31 (by decide)
  obtain ⟨x0, x1, rfl⟩ := h2
  exact ⟨_, h1⟩
theorem kr_31_0 {w : xW} (hC : CS w) : fR w 31 9 0 28 := by
  obtain ⟨c, h1, h2⟩ := hC.2 31 (by decide)
  obtain ⟨x0, x1, rfl⟩ := h2
  exact ⟨_, h1, rfl⟩
theorem kr_31_1 {w : xW} (hC : CS w) : fR w 31 9 1 32 := by
  obtain ⟨c, h1, h2⟩ := hC.2 31 (by decide)
  obtain ⟨x0, x1, rfl⟩ := h2
  exact ⟨_, h1, rfl⟩
theorem kr_31_2 {w : xW} (hC : CS w) : fR w 31 9 2 33 := by
  obtain ⟨c, h1, h2⟩ := hC.2 31 (by decide)
  obtain ⟨x0, x1, rfl⟩ := h2
  exact ⟨_, h1, rfl⟩
theorem kf_31_3 {w : xW} (hC : CS w) : hasF w 31 9 3 := by
  obtain ⟨c, h1, h2⟩ := hC.2 31 (by decide)
  obtain ⟨x0, x1, rfl⟩ := h2
  exact ⟨_, h1, Nat.le_of_ble_eq_true rfl⟩
theorem ks_31_3 {w : xW} {v : Int32} (hC : CS w) : CS (pF w 31 3 (.int v)) := by
  have hC2 := hC
  obtain ⟨c, h1, h2⟩ := hC.2 31 (by decide)
  obtain ⟨x0, x1, rfl⟩ := h2
  rw [pF_of h1]
  exact hC2.set (⟨_, _, rfl⟩)
theorem kf_31_4 {w : xW} (hC : CS w) : hasF w 31 9 4 := by
  obtain ⟨c, h1, h2⟩ := hC.2 31 (by decide)
  obtain ⟨x0, x1, rfl⟩ := h2
  exact ⟨_, h1, Nat.le_of_ble_eq_true rfl⟩
theorem ks_31_4 {w : xW} {v : Int32} (hC : CS w) : CS (pF w 31 4 (.int v)) := by
  have hC2 := hC
  obtain ⟨c, h1, h2⟩ := hC.2 31 (by decide)
  obtain ⟨x0, x1, rfl⟩ := h2
  rw [pF_of h1]
  exact hC2.set (⟨_, _, rfl⟩)
theorem ko_34 {w : xW} (hC : CS w) : isO w 34 10 := by
  obtain ⟨c, h1, h2⟩ := hC.2 34 (by decide)
  obtain ⟨x0, rfl⟩ := h2
  exact ⟨_, h1⟩
theorem kr_34_0 {w : xW} (hC : CS w) : fR w 34 10 0 35 := by
  obtain ⟨c, h1, h2⟩ := hC.2 34 (by decide)
  obtain ⟨x0, rfl⟩ := h2
  exact ⟨_, h1, rfl⟩
theorem kf_34_1 {w : xW} (hC : CS w) : hasF w 34 10 1 := by
  obtain ⟨c, h1, h2⟩ := hC.2 34 (by decide)
  obtain ⟨x0, rfl⟩ := h2
  exact ⟨_, h1, Nat.le_of_ble_eq_true rfl⟩
theorem ks_34_1 {w : xW} {v : Int32} (hC : CS w) : CS (pF w 34 1 (.int v)) := by
  have hC2 := hC
  obtain ⟨c, h1, h2⟩ := hC.2 34 (by decide)
  obtain ⟨x0, rfl⟩ := h2
  rw [pF_of h1]
  exact hC2.set (⟨_, rfl⟩)
theorem ko_36 {w : xW} (hC : CS w) : isO w 36 5 := by
  obtain ⟨c, h1, h2⟩ := hC.2 36 (by decide)
  obtain ⟨x0, x1, x2, rfl⟩ := h2
  exact ⟨_, h1⟩
theorem kf_36_0 {w : xW} (hC : CS w) : hasF w 36 5 0 := by
  obtain ⟨c, h1, h2⟩ := hC.2 36 (by decide)
  obtain ⟨x0, x1, x2, rfl⟩ := h2
  exact ⟨_, h1, Nat.le_of_ble_eq_true rfl⟩
theorem ks_36_0 {w : xW} {v : Int64} (hC : CS w) : CS (pF w 36 0 (.long v)) := by
  have hC2 := hC
  obtain ⟨c, h1, h2⟩ := hC.2 36 (by decide)
  obtain ⟨x0, x1, x2, rfl⟩ := h2
  rw [pF_of h1]
  exact hC2.set (⟨_, _, _, rfl⟩)
theorem kf_36_1 {w : xW} (hC : CS w) : hasF w 36 5 1 := by
  obtain ⟨c, h1, h2⟩ := hC.2 36 (by decide)
  obtain ⟨x0, x1, x2, rfl⟩ := h2
  exact ⟨_, h1, Nat.le_of_ble_eq_true rfl⟩
theorem ks_36_1 {w : xW} {v : Int64} (hC : CS w) : CS (pF w 36 1 (.long v)) := by
  have hC2 := hC
  obtain ⟨c, h1, h2⟩ := hC.2 36 (by decide)
  obtain ⟨x0, x1, x2, rfl⟩ := h2
  rw [pF_of h1]
  exact hC2.set (⟨_, _, _, rfl⟩)
theorem kf_36_2 {w : xW} (hC : CS w) : hasF w 36 5 2 := by
  obtain ⟨c, h1, h2⟩ := hC.2 36 (by decide)
  obtain ⟨x0, x1, x2, rfl⟩ := h2
  exact ⟨_, h1, Nat.le_of_ble_eq_true rfl⟩
theorem ks_36_2 {w : xW} {v : Int64} (hC : CS w) : CS (pF w 36 2 (.long v)) := by
  have hC2 := hC
  obtain ⟨c, h1, h2⟩ := hC.2 36 (by decide)
  obtain ⟨x0, x1, x2, rfl⟩ := h2
  rw [pF_of h1]
  exact hC2.set (⟨_, _, _, rfl⟩)
theorem ko_39 {w : xW} (hC : CS w) : isO w 39 12 := by
  obtain ⟨c, h1, h2⟩ := hC.2 39 (by decide)
  obtain ⟨x0, x1, x2, x3, x4, x5, x6, rfl⟩ := h2
  exact ⟨_, h1⟩
theorem kf_39_0 {w : xW} (hC : CS w) : hasF w 39 12 0 := by
  obtain ⟨c, h1, h2⟩ := hC.2 39 (by decide)
  obtain ⟨x0, x1, x2, x3, x4, x5, x6, rfl⟩ := h2
  exact ⟨_, h1, Nat.le_of_ble_eq_true rfl⟩
theorem ks_39_0 {w : xW} {v : Int32} (hC : CS w) : CS (pF w 39 0 (.int v)) := by
  have hC2 := hC
  obtain ⟨c, h1, h2⟩ := hC.2 39 (by decide)
  obtain ⟨x0, x1, x2, x3, x4, x5, x6, rfl⟩ := h2
  rw [pF_of h1]
  exact hC2.set (⟨_, _, _, _, _, _, _, rfl⟩)
theorem kr_39_1 {w : xW} (hC : CS w) : fR w 39 12 1 40 := by
  obtain ⟨c, h1, h2⟩ := hC.2 39 (by decide)
  obtain ⟨x0, x1, x2, x3, x4, x5, x6, rfl⟩ := h2
  exact ⟨_, h1, rfl⟩
theorem kr_39_2 {w : xW} (hC : CS w) : fR w 39 12 2 41 := by
  obtain ⟨c, h1, h2⟩ := hC.2 39 (by decide)
  obtain ⟨x0, x1, x2, x3, x4, x5, x6, rfl⟩ := h2
  exact ⟨_, h1, rfl⟩
theorem kr_39_3 {w : xW} (hC : CS w) : fR w 39 12 3 42 := by
  obtain ⟨c, h1, h2⟩ := hC.2 39 (by decide)
  obtain ⟨x0, x1, x2, x3, x4, x5, x6, rfl⟩ := h2
  exact ⟨_, h1, rfl⟩
theorem kf_39_4 {w : xW} (hC : CS w) : hasF w 39 12 4 := by
  obtain ⟨c, h1, h2⟩ := hC.2 39 (by decide)
  obtain ⟨x0, x1, x2, x3, x4, x5, x6, rfl⟩ := h2
  exact ⟨_, h1, Nat.le_of_ble_eq_true rfl⟩
theorem ks_39_4 {w : xW} {v : Int32} (hC : CS w) : CS (pF w 39 4 (.int v)) := by
  have hC2 := hC
  obtain ⟨c, h1, h2⟩ := hC.2 39 (by decide)
  obtain ⟨x0, x1, x2, x3, x4, x5, x6, rfl⟩ := h2
  rw [pF_of h1]
  exact hC2.set (⟨_, _, _, _, _, _, _, rfl⟩)
theorem kr_39_5 {w : xW} (hC : CS w) : fR w 39 12 5 43 := by
  obtain ⟨c, h1, h2⟩ := hC.2 39 (by decide)
  obtain ⟨x0, x1, x2, x3, x4, x5, x6, rfl⟩ := h2
  exact ⟨_, h1, rfl⟩
theorem kr_39_6 {w : xW} (hC : CS w) : fR w 39 12 6 44 := by
  obtain ⟨c, h1, h2⟩ := hC.2 39 (by decide)
  obtain ⟨x0, x1, x2, x3, x4, x5, x6, rfl⟩ := h2
  exact ⟨_, h1, rfl⟩
theorem kf_39_7 {w : xW} (hC : CS w) : hasF w 39 12 7 := by
  obtain ⟨c, h1, h2⟩ := hC.2 39 (by decide)
  obtain ⟨x0, x1, x2, x3, x4, x5, x6, rfl⟩ := h2
  exact ⟨_, h1, Nat.le_of_ble_eq_true rfl⟩
theorem ks_39_7 {w : xW} {v : Int32} (hC : CS w) : CS (pF w 39 7 (.int v)) := by
  have hC2 := hC
  obtain ⟨c, h1, h2⟩ := hC.2 39 (by decide)
  obtain ⟨x0, x1, x2, x3, x4, x5, x6, rfl⟩ := h2
  rw [pF_of h1]
  exact hC2.set (⟨_, _, _, _, _, _, _, rfl⟩)
theorem kf_39_8 {w : xW} (hC : CS w) : hasF w 39 12 8 := by
  obtain ⟨c, h1, h2⟩ := hC.2 39 (by decide)
  obtain ⟨x0, x1, x2, x3, x4, x5, x6, rfl⟩ := h2
  exact ⟨_, h1, Nat.le_of_ble_eq_true rfl⟩
theorem ks_39_8 {w : xW} {v : Int64} (hC : CS w) : CS (pF w 39 8 (.long v)) := by
  have hC2 := hC
  obtain ⟨c, h1, h2⟩ := hC.2 39 (by decide)
  obtain ⟨x0, x1, x2, x3, x4, x5, x6, rfl⟩ := h2
  rw [pF_of h1]
  exact hC2.set (⟨_, _, _, _, _, _, _, rfl⟩)
theorem kf_39_9 {w : xW} (hC : CS w) : hasF w 39 12 9 := by
  obtain ⟨c, h1, h2⟩ := hC.2 39 (by decide)
  obtain ⟨x0, x1, x2, x3, x4, x5, x6, rfl⟩ := h2
  exact ⟨_, h1, Nat.le_of_ble_eq_true rfl⟩
theorem ks_39_9 {w : xW} {v : Int64} (hC : CS w) : CS (pF w 39 9 (.long v)) := by
  have hC2 := hC
  obtain ⟨c, h1, h2⟩ := hC.2 39 (by decide)
  obtain ⟨x0, x1, x2, x3, x4, x5, x6, rfl⟩ := h2
  rw [pF_of h1]
  exact hC2.set (⟨_, _, _, _, _, _, _, rfl⟩)
theorem kr_39_10 {w : xW} (hC : CS w) : fR w 39 12 10 45 := by
  obtain ⟨c, h1, h2⟩ := hC.2 39 (by decide)
  obtain ⟨x0, x1, x2, x3, x4, x5, x6, rfl⟩ := h2
  exact ⟨_, h1, rfl⟩
theorem kr_39_11 {w : xW} (hC : CS w) : fR w 39 12 11 46 := by
  obtain ⟨c, h1, h2⟩ := hC.2 39 (by decide)
  obtain ⟨x0, x1, x2, x3, x4, x5, x6, rfl⟩ := h2
  exact ⟨_, h1, rfl⟩
theorem kr_39_12 {w : xW} (hC : CS w) : fR w 39 12 12 47 := by
  obtain ⟨c, h1, h2⟩ := hC.2 39 (by decide)
  obtain ⟨x0, x1, x2, x3, x4, x5, x6, rfl⟩ := h2
  exact ⟨_, h1, rfl⟩
theorem kf_39_13 {w : xW} (hC : CS w) : hasF w 39 12 13 := by
  obtain ⟨c, h1, h2⟩ := hC.2 39 (by decide)
  obtain ⟨x0, x1, x2, x3, x4, x5, x6, rfl⟩ := h2
  exact ⟨_, h1, Nat.le_of_ble_eq_true rfl⟩
theorem ks_39_13 {w : xW} {v : Int32} (hC : CS w) : CS (pF w 39 13 (.int v)) := by
  have hC2 := hC
  obtain ⟨c, h1, h2⟩ := hC.2 39 (by decide)
  obtain ⟨x0, x1, x2, x3, x4, x5, x6, rfl⟩ := h2
  rw [pF_of h1]
  exact hC2.set (⟨_, _, _, _, _, _, _, rfl⟩)
theorem kf_39_14 {w : xW} (hC : CS w) : hasF w 39 12 14 := by
  obtain ⟨c, h1, h2⟩ := hC.2 39 (by decide)
  obtain ⟨x0, x1, x2, x3, x4, x5, x6, rfl⟩ := h2
  exact ⟨_, h1, Nat.le_of_ble_eq_true rfl⟩
theorem ks_39_14 {w : xW} {v : Int64} (hC : CS w) : CS (pF w 39 14 (.long v)) := by
  have hC2 := hC
  obtain ⟨c, h1, h2⟩ := hC.2 39 (by decide)
  obtain ⟨x0, x1, x2, x3, x4, x5, x6, rfl⟩ := h2
  rw [pF_of h1]
  exact hC2.set (⟨_, _, _, _, _, _, _, rfl⟩)
theorem kr_39_15 {w : xW} (hC : CS w) : fR w 39 12 15 48 := by
  obtain ⟨c, h1, h2⟩ := hC.2 39 (by decide)
  obtain ⟨x0, x1, x2, x3, x4, x5, x6, rfl⟩ := h2
  exact ⟨_, h1, rfl⟩
theorem kr_39_16 {w : xW} (hC : CS w) : fR w 39 12 16 49 := by
  obtain ⟨c, h1, h2⟩ := hC.2 39 (by decide)
  obtain ⟨x0, x1, x2, x3, x4, x5, x6, rfl⟩ := h2
  exact ⟨_, h1, rfl⟩
theorem kr_39_17 {w : xW} (hC : CS w) : fR w 39 12 17 50 := by
  obtain ⟨c, h1, h2⟩ := hC.2 39 (by decide)
  obtain ⟨x0, x1, x2, x3, x4, x5, x6, rfl⟩ := h2
  exact ⟨_, h1, rfl⟩
theorem kr_39_18 {w : xW} (hC : CS w) : fR w 39 12 18 51 := by
  obtain ⟨c, h1, h2⟩ := hC.2 39 (by decide)
  obtain ⟨x0, x1, x2, x3, x4, x5, x6, rfl⟩ := h2
  exact ⟨_, h1, rfl⟩
theorem kr_39_19 {w : xW} (hC : CS w) : fR w 39 12 19 52 := by
  obtain ⟨c, h1, h2⟩ := hC.2 39 (by decide)
  obtain ⟨x0, x1, x2, x3, x4, x5, x6, rfl⟩ := h2
  exact ⟨_, h1, rfl⟩
theorem kr_39_20 {w : xW} (hC : CS w) : fR w 39 12 20 53 := by
  obtain ⟨c, h1, h2⟩ := hC.2 39 (by decide)
  obtain ⟨x0, x1, x2, x3, x4, x5, x6, rfl⟩ := h2
  exact ⟨_, h1, rfl⟩
theorem kr_39_21 {w : xW} (hC : CS w) : fR w 39 12 21 54 := by
  obtain ⟨c, h1, h2⟩ := hC.2 39 (by decide)
  obtain ⟨x0, x1, x2, x3, x4, x5, x6, rfl⟩ := h2
  exact ⟨_, h1, rfl⟩
theorem kr_39_22 {w : xW} (hC : CS w) : fR w 39 12 22 55 := by
  obtain ⟨c, h1, h2⟩ := hC.2 39 (by decide)
  obtain ⟨x0, x1, x2, x3, x4, x5, x6, rfl⟩ := h2
  exact ⟨_, h1, rfl⟩
theorem kr_39_23 {w : xW} (hC : CS w) : fR w 39 12 23 56 := by
  obtain ⟨c, h1, h2⟩ := hC.2 39 (by decide)
  obtain ⟨x0, x1, x2, x3, x4, x5, x6, rfl⟩ := h2
  exact ⟨_, h1, rfl⟩
theorem kr_39_24 {w : xW} (hC : CS w) : fR w 39 12 24 57 := by
  obtain ⟨c, h1, h2⟩ := hC.2 39 (by decide)
  obtain ⟨x0, x1, x2, x3, x4, x5, x6, rfl⟩ := h2
  exact ⟨_, h1, rfl⟩
theorem kr_39_25 {w : xW} (hC : CS w) : fR w 39 12 25 58 := by
  obtain ⟨c, h1, h2⟩ := hC.2 39 (by decide)
  obtain ⟨x0, x1, x2, x3, x4, x5, x6, rfl⟩ := h2
  exact ⟨_, h1, rfl⟩
theorem kr_39_26 {w : xW} (hC : CS w) : fR w 39 12 26 59 := by
  obtain ⟨c, h1, h2⟩ := hC.2 39 (by decide)
  obtain ⟨x0, x1, x2, x3, x4, x5, x6, rfl⟩ := h2
  exact ⟨_, h1, rfl⟩
theorem kr_39_27 {w : xW} (hC : CS w) : fR w 39 12 27 60 := by
  obtain ⟨c, h1, h2⟩ := hC.2 39 (by decide)
  obtain ⟨x0, x1, x2, x3, x4, x5, x6, rfl⟩ := h2
  exact ⟨_, h1, rfl⟩
theorem kr_39_28 {w : xW} (hC : CS w) : fR w 39 12 28 61 := by
  obtain ⟨c, h1, h2⟩ := hC.2 39 (by decide)
  obtain ⟨x0, x1, x2, x3, x4, x5, x6, rfl⟩ := h2
  exact ⟨_, h1, rfl⟩
theorem kr_39_29 {w : xW} (hC : CS w) : fR w 39 12 29 62 := by
  obtain ⟨c, h1, h2⟩ := hC.2 39 (by decide)
  obtain ⟨x0, x1, x2, x3, x4, x5, x6, rfl⟩ := h2
  exact ⟨_, h1, rfl⟩
theorem kr_39_30 {w : xW} (hC : CS w) : fR w 39 12 30 63 := by
  obtain ⟨c, h1, h2⟩ := hC.2 39 (by decide)
  obtain ⟨x0, x1, x2, x3, x4, x5, x6, rfl⟩ := h2
  exact ⟨_, h1, rfl⟩
theorem kr_39_31 {w : xW} (hC : CS w) : fR w 39 12 31 64 := by
  obtain ⟨c, h1, h2⟩ := hC.2 39 (by decide)
  obtain ⟨x0, x1, x2, x3, x4, x5, x6, rfl⟩ := h2
  exact ⟨_, h1, rfl⟩
theorem kr_39_32 {w : xW} (hC : CS w) : fR w 39 12 32 65 := by
  obtain ⟨c, h1, h2⟩ := hC.2 39 (by decide)
  obtain ⟨x0, x1, x2, x3, x4, x5, x6, rfl⟩ := h2
  exact ⟨_, h1, rfl⟩
theorem kr_39_33 {w : xW} (hC : CS w) : fR w 39 12 33 66 := by
  obtain ⟨c, h1, h2⟩ := hC.2 39 (by decide)
  obtain ⟨x0, x1, x2, x3, x4, x5, x6, rfl⟩ := h2
  exact ⟨_, h1, rfl⟩
theorem kr_e_0 {w : xW} {e : Nat} (he : eIs e) (hC : CS w) : fR w e 4 0 (e + 1) := by
  rcases he with rfl | rfl | rfl
  · exact kr_7_0 hC
  · exact kr_12_0 hC
  · exact kr_17_0 hC
theorem kr_e_1 {w : xW} {e : Nat} (he : eIs e) (hC : CS w) : fR w e 4 1 (e + 2) := by
  rcases he with rfl | rfl | rfl
  · exact kr_7_1 hC
  · exact kr_12_1 hC
  · exact kr_17_1 hC
theorem kr_e_2 {w : xW} {e : Nat} (he : eIs e) (hC : CS w) : fR w e 4 2 (e + 3) := by
  rcases he with rfl | rfl | rfl
  · exact kr_7_2 hC
  · exact kr_12_2 hC
  · exact kr_17_2 hC
theorem kr_e_3 {w : xW} {e : Nat} (he : eIs e) (hC : CS w) : fR w e 4 3 (e + 4) := by
  rcases he with rfl | rfl | rfl
  · exact kr_7_3 hC
  · exact kr_12_3 hC
  · exact kr_17_3 hC
theorem ko_e {w : xW} {e : Nat} (he : eIs e) (hC : CS w) : isO w e 4 := by
  rcases he with rfl | rfl | rfl
  · exact ko_7 hC
  · exact ko_12 hC
  · exact ko_17 hC
theorem ko_q {w : xW} {q : Nat} (hq : qIs q) (hC : CS w) : isO w q 5 := by
  rcases hq with rfl | rfl | rfl | rfl
  · exact ko_11 hC
  · exact ko_16 hC
  · exact ko_21 hC
  · exact ko_36 hC
theorem ko_e4 {w : xW} {e : Nat} (he : eIs e) (hC : CS w) : isO w (e + 4) 5 := by
  rcases he with rfl | rfl | rfl
  · exact ko_11 hC
  · exact ko_16 hC
  · exact ko_21 hC
theorem kf_q_0 {w : xW} {q : Nat} (hq : qIs q) (hC : CS w) : hasF w q 5 0 := by
  rcases hq with rfl | rfl | rfl | rfl
  · exact kf_11_0 hC
  · exact kf_16_0 hC
  · exact kf_21_0 hC
  · exact kf_36_0 hC
theorem ks_q_0 {w : xW} {q : Nat} {v : Int64} (hq : qIs q) (hC : CS w) : CS (pF w q 0 (.long v)) := by
  rcases hq with rfl | rfl | rfl | rfl
  · exact ks_11_0 hC
  · exact ks_16_0 hC
  · exact ks_21_0 hC
  · exact ks_36_0 hC
theorem kf_q_1 {w : xW} {q : Nat} (hq : qIs q) (hC : CS w) : hasF w q 5 1 := by
  rcases hq with rfl | rfl | rfl | rfl
  · exact kf_11_1 hC
  · exact kf_16_1 hC
  · exact kf_21_1 hC
  · exact kf_36_1 hC
theorem ks_q_1 {w : xW} {q : Nat} {v : Int64} (hq : qIs q) (hC : CS w) : CS (pF w q 1 (.long v)) := by
  rcases hq with rfl | rfl | rfl | rfl
  · exact ks_11_1 hC
  · exact ks_16_1 hC
  · exact ks_21_1 hC
  · exact ks_36_1 hC
theorem kf_q_2 {w : xW} {q : Nat} (hq : qIs q) (hC : CS w) : hasF w q 5 2 := by
  rcases hq with rfl | rfl | rfl | rfl
  · exact kf_11_2 hC
  · exact kf_16_2 hC
  · exact kf_21_2 hC
  · exact kf_36_2 hC
theorem ks_q_2 {w : xW} {q : Nat} {v : Int64} (hq : qIs q) (hC : CS w) : CS (pF w q 2 (.long v)) := by
  rcases hq with rfl | rfl | rfl | rfl
  · exact ks_11_2 hC
  · exact ks_16_2 hC
  · exact ks_21_2 hC
  · exact ks_36_2 hC
theorem kl_2 {w : xW} (hC : CS w) : lenL w 2 1764 := by
  obtain ⟨c, h1, h2⟩ := hC.2 2 (by decide)
  obtain ⟨x0, rfl⟩ := h2
  exact ⟨_, h1⟩
theorem kh_2 {w : xW} {i : Int} (hC : CS w) (hi : 0 ≤ i ∧ i < 1764) : 0 ≤ i ∧ hasL w 2 i.toNat := by
  obtain ⟨f, h1⟩ := kl_2 hC
  exact ⟨hi.1, _, _, h1, by decide, by omega⟩
theorem kl_5 {w : xW} (hC : CS w) : lenL w 5 39 := by
  obtain ⟨c, h1, h2⟩ := hC.2 5 (by decide)
  obtain ⟨x0, rfl⟩ := h2
  exact ⟨_, h1⟩
theorem kh_5 {w : xW} {i : Int} (hC : CS w) (hi : 0 ≤ i ∧ i < 39) : 0 ≤ i ∧ hasL w 5 i.toNat := by
  obtain ⟨f, h1⟩ := kl_5 hC
  exact ⟨hi.1, _, _, h1, by decide, by omega⟩
theorem kl_6 {w : xW} (hC : CS w) : lenL w 6 39 := by
  obtain ⟨c, h1, h2⟩ := hC.2 6 (by decide)
  obtain ⟨x0, rfl⟩ := h2
  exact ⟨_, h1⟩
theorem kh_6 {w : xW} {i : Int} (hC : CS w) (hi : 0 ≤ i ∧ i < 39) : 0 ≤ i ∧ hasL w 6 i.toNat := by
  obtain ⟨f, h1⟩ := kl_6 hC
  exact ⟨hi.1, _, _, h1, by decide, by omega⟩
theorem kl_8 {w : xW} (hC : CS w) : lenL w 8 39 := by
  obtain ⟨c, h1, h2⟩ := hC.2 8 (by decide)
  obtain ⟨x0, rfl⟩ := h2
  exact ⟨_, h1⟩
theorem kh_8 {w : xW} {i : Int} (hC : CS w) (hi : 0 ≤ i ∧ i < 39) : 0 ≤ i ∧ hasL w 8 i.toNat := by
  obtain ⟨f, h1⟩ := kl_8 hC
  exact ⟨hi.1, _, _, h1, by decide, by omega⟩
theorem kl_9 {w : xW} (hC : CS w) : lenL w 9 39 := by
  obtain ⟨c, h1, h2⟩ := hC.2 9 (by decide)
  obtain ⟨x0, rfl⟩ := h2
  exact ⟨_, h1⟩
theorem kh_9 {w : xW} {i : Int} (hC : CS w) (hi : 0 ≤ i ∧ i < 39) : 0 ≤ i ∧ hasL w 9 i.toNat := by
  obtain ⟨f, h1⟩ := kl_9 hC
  exact ⟨hi.1, _, _, h1, by decide, by omega⟩
theorem kl_10 {w : xW} (hC : CS w) : lenL w 10 39 := by
  obtain ⟨c, h1, h2⟩ := hC.2 10 (by decide)
  obtain ⟨x0, rfl⟩ := h2
  exact ⟨_, h1⟩
theorem kh_10 {w : xW} {i : Int} (hC : CS w) (hi : 0 ≤ i ∧ i < 39) : 0 ≤ i ∧ hasL w 10 i.toNat := by
  obtain ⟨f, h1⟩ := kl_10 hC
  exact ⟨hi.1, _, _, h1, by decide, by omega⟩
theorem kl_13 {w : xW} (hC : CS w) : lenL w 13 39 := by
  obtain ⟨c, h1, h2⟩ := hC.2 13 (by decide)
  obtain ⟨x0, rfl⟩ := h2
  exact ⟨_, h1⟩
theorem kh_13 {w : xW} {i : Int} (hC : CS w) (hi : 0 ≤ i ∧ i < 39) : 0 ≤ i ∧ hasL w 13 i.toNat := by
  obtain ⟨f, h1⟩ := kl_13 hC
  exact ⟨hi.1, _, _, h1, by decide, by omega⟩
theorem kl_14 {w : xW} (hC : CS w) : lenL w 14 39 := by
  obtain ⟨c, h1, h2⟩ := hC.2 14 (by decide)
  obtain ⟨x0, rfl⟩ := h2
  exact ⟨_, h1⟩
theorem kh_14 {w : xW} {i : Int} (hC : CS w) (hi : 0 ≤ i ∧ i < 39) : 0 ≤ i ∧ hasL w 14 i.toNat := by
  obtain ⟨f, h1⟩ := kl_14 hC
  exact ⟨hi.1, _, _, h1, by decide, by omega⟩
theorem kl_15 {w : xW} (hC : CS w) : lenL w 15 39 := by
  obtain ⟨c, h1, h2⟩ := hC.2 15 (by decide)
  obtain ⟨x0, rfl⟩ := h2
  exact ⟨_, h1⟩
theorem kh_15 {w : xW} {i : Int} (hC : CS w) (hi : 0 ≤ i ∧ i < 39) : 0 ≤ i ∧ hasL w 15 i.toNat := by
  obtain ⟨f, h1⟩ := kl_15 hC
  exact ⟨hi.1, _, _, h1, by decide, by omega⟩
theorem kl_18 {w : xW} (hC : CS w) : lenL w 18 39 := by
  obtain ⟨c, h1, h2⟩ := hC.2 18 (by decide)
  obtain ⟨x0, rfl⟩ := h2
  exact ⟨_, h1⟩
theorem kh_18 {w : xW} {i : Int} (hC : CS w) (hi : 0 ≤ i ∧ i < 39) : 0 ≤ i ∧ hasL w 18 i.toNat := by
  obtain ⟨f, h1⟩ := kl_18 hC
  exact ⟨hi.1, _, _, h1, by decide, by omega⟩
theorem kl_19 {w : xW} (hC : CS w) : lenL w 19 39 := by
  obtain ⟨c, h1, h2⟩ := hC.2 19 (by decide)
  obtain ⟨x0, rfl⟩ := h2
  exact ⟨_, h1⟩
theorem kh_19 {w : xW} {i : Int} (hC : CS w) (hi : 0 ≤ i ∧ i < 39) : 0 ≤ i ∧ hasL w 19 i.toNat := by
  obtain ⟨f, h1⟩ := kl_19 hC
  exact ⟨hi.1, _, _, h1, by decide, by omega⟩
theorem kl_20 {w : xW} (hC : CS w) : lenL w 20 39 := by
  obtain ⟨c, h1, h2⟩ := hC.2 20 (by decide)
  obtain ⟨x0, rfl⟩ := h2
  exact ⟨_, h1⟩
theorem kh_20 {w : xW} {i : Int} (hC : CS w) (hi : 0 ≤ i ∧ i < 39) : 0 ≤ i ∧ hasL w 20 i.toNat := by
  obtain ⟨f, h1⟩ := kl_20 hC
  exact ⟨hi.1, _, _, h1, by decide, by omega⟩
theorem kl_22 {w : xW} (hC : CS w) : lenI w 22 39 := by
  obtain ⟨c, h1, h2⟩ := hC.2 22 (by decide)
  obtain ⟨x0, rfl⟩ := h2
  exact ⟨_, h1⟩
theorem kh_22 {w : xW} {i : Int} (hC : CS w) (hi : 0 ≤ i ∧ i < 39) : 0 ≤ i ∧ hasI w 22 i.toNat := by
  obtain ⟨f, h1⟩ := kl_22 hC
  exact ⟨hi.1, _, _, h1, by decide, by omega⟩
theorem kl_25 {w : xW} (hC : CS w) : lenI w 25 20 := by
  obtain ⟨c, h1, h2⟩ := hC.2 25 (by decide)
  obtain ⟨x0, rfl⟩ := h2
  exact ⟨_, h1⟩
theorem kh_25 {w : xW} {i : Int} (hC : CS w) (hi : 0 ≤ i ∧ i < 20) : 0 ≤ i ∧ hasI w 25 i.toNat := by
  obtain ⟨f, h1⟩ := kl_25 hC
  exact ⟨hi.1, _, _, h1, by decide, by omega⟩
theorem kl_26 {w : xW} (hC : CS w) : lenI w 26 20 := by
  obtain ⟨c, h1, h2⟩ := hC.2 26 (by decide)
  obtain ⟨x0, rfl⟩ := h2
  exact ⟨_, h1⟩
theorem kh_26 {w : xW} {i : Int} (hC : CS w) (hi : 0 ≤ i ∧ i < 20) : 0 ≤ i ∧ hasI w 26 i.toNat := by
  obtain ⟨f, h1⟩ := kl_26 hC
  exact ⟨hi.1, _, _, h1, by decide, by omega⟩
theorem kl_27 {w : xW} (hC : CS w) : lenI w 27 20 := by
  obtain ⟨c, h1, h2⟩ := hC.2 27 (by decide)
  obtain ⟨x0, rfl⟩ := h2
  exact ⟨_, h1⟩
theorem kh_27 {w : xW} {i : Int} (hC : CS w) (hi : 0 ≤ i ∧ i < 20) : 0 ≤ i ∧ hasI w 27 i.toNat := by
  obtain ⟨f, h1⟩ := kl_27 hC
  exact ⟨hi.1, _, _, h1, by decide, by omega⟩
theorem kl_29 {w : xW} (hC : CS w) : lenL w 29 200 := by
  obtain ⟨c, h1, h2⟩ := hC.2 29 (by decide)
  obtain ⟨x0, rfl⟩ := h2
  exact ⟨_, h1⟩
theorem kh_29 {w : xW} {i : Int} (hC : CS w) (hi : 0 ≤ i ∧ i < 200) : 0 ≤ i ∧ hasL w 29 i.toNat := by
  obtain ⟨f, h1⟩ := kl_29 hC
  exact ⟨hi.1, _, _, h1, by decide, by omega⟩
theorem kl_30 {w : xW} (hC : CS w) : lenL w 30 200 := by
  obtain ⟨c, h1, h2⟩ := hC.2 30 (by decide)
  obtain ⟨x0, rfl⟩ := h2
  exact ⟨_, h1⟩
theorem kh_30 {w : xW} {i : Int} (hC : CS w) (hi : 0 ≤ i ∧ i < 200) : 0 ≤ i ∧ hasL w 30 i.toNat := by
  obtain ⟨f, h1⟩ := kl_30 hC
  exact ⟨hi.1, _, _, h1, by decide, by omega⟩
theorem kl_32 {w : xW} (hC : CS w) : lenI w 32 100 := by
  obtain ⟨c, h1, h2⟩ := hC.2 32 (by decide)
  obtain ⟨x0, rfl⟩ := h2
  exact ⟨_, h1⟩
theorem kh_32 {w : xW} {i : Int} (hC : CS w) (hi : 0 ≤ i ∧ i < 100) : 0 ≤ i ∧ hasI w 32 i.toNat := by
  obtain ⟨f, h1⟩ := kl_32 hC
  exact ⟨hi.1, _, _, h1, by decide, by omega⟩
theorem kl_33 {w : xW} (hC : CS w) : lenI w 33 100 := by
  obtain ⟨c, h1, h2⟩ := hC.2 33 (by decide)
  obtain ⟨x0, rfl⟩ := h2
  exact ⟨_, h1⟩
theorem kh_33 {w : xW} {i : Int} (hC : CS w) (hi : 0 ≤ i ∧ i < 100) : 0 ≤ i ∧ hasI w 33 i.toNat := by
  obtain ⟨f, h1⟩ := kl_33 hC
  exact ⟨hi.1, _, _, h1, by decide, by omega⟩
theorem kl_35 {w : xW} (hC : CS w) : lenL w 35 28 := by
  obtain ⟨c, h1, h2⟩ := hC.2 35 (by decide)
  obtain ⟨x0, rfl⟩ := h2
  exact ⟨_, h1⟩
theorem kh_35 {w : xW} {i : Int} (hC : CS w) (hi : 0 ≤ i ∧ i < 28) : 0 ≤ i ∧ hasL w 35 i.toNat := by
  obtain ⟨f, h1⟩ := kl_35 hC
  exact ⟨hi.1, _, _, h1, by decide, by omega⟩
theorem kl_37 {w : xW} (hC : CS w) : lenL w 37 40 := by
  obtain ⟨c, h1, h2⟩ := hC.2 37 (by decide)
  obtain ⟨x0, rfl⟩ := h2
  exact ⟨_, h1⟩
theorem kh_37 {w : xW} {i : Int} (hC : CS w) (hi : 0 ≤ i ∧ i < 40) : 0 ≤ i ∧ hasL w 37 i.toNat := by
  obtain ⟨f, h1⟩ := kl_37 hC
  exact ⟨hi.1, _, _, h1, by decide, by omega⟩
theorem kl_38 {w : xW} (hC : CS w) : lenL w 38 40 := by
  obtain ⟨c, h1, h2⟩ := hC.2 38 (by decide)
  obtain ⟨x0, rfl⟩ := h2
  exact ⟨_, h1⟩
theorem kh_38 {w : xW} {i : Int} (hC : CS w) (hi : 0 ≤ i ∧ i < 40) : 0 ≤ i ∧ hasL w 38 i.toNat := by
  obtain ⟨f, h1⟩ := kl_38 hC
  exact ⟨hi.1, _, _, h1, by decide, by omega⟩
theorem kl_40 {w : xW} (hC : CS w) : lenL w 40 117 := by
  obtain ⟨c, h1, h2⟩ := hC.2 40 (by decide)
  obtain ⟨x0, rfl⟩ := h2
  exact ⟨_, h1⟩
theorem kh_40 {w : xW} {i : Int} (hC : CS w) (hi : 0 ≤ i ∧ i < 117) : 0 ≤ i ∧ hasL w 40 i.toNat := by
  obtain ⟨f, h1⟩ := kl_40 hC
  exact ⟨hi.1, _, _, h1, by decide, by omega⟩
theorem kl_41 {w : xW} (hC : CS w) : lenL w 41 117 := by
  obtain ⟨c, h1, h2⟩ := hC.2 41 (by decide)
  obtain ⟨x0, rfl⟩ := h2
  exact ⟨_, h1⟩
theorem kh_41 {w : xW} {i : Int} (hC : CS w) (hi : 0 ≤ i ∧ i < 117) : 0 ≤ i ∧ hasL w 41 i.toNat := by
  obtain ⟨f, h1⟩ := kl_41 hC
  exact ⟨hi.1, _, _, h1, by decide, by omega⟩
theorem kl_42 {w : xW} (hC : CS w) : lenI w 42 39 := by
  obtain ⟨c, h1, h2⟩ := hC.2 42 (by decide)
  obtain ⟨x0, rfl⟩ := h2
  exact ⟨_, h1⟩
theorem kh_42 {w : xW} {i : Int} (hC : CS w) (hi : 0 ≤ i ∧ i < 39) : 0 ≤ i ∧ hasI w 42 i.toNat := by
  obtain ⟨f, h1⟩ := kl_42 hC
  exact ⟨hi.1, _, _, h1, by decide, by omega⟩
theorem kl_43 {w : xW} (hC : CS w) : lenL w 43 1680 := by
  obtain ⟨c, h1, h2⟩ := hC.2 43 (by decide)
  obtain ⟨x0, rfl⟩ := h2
  exact ⟨_, h1⟩
theorem kh_43 {w : xW} {i : Int} (hC : CS w) (hi : 0 ≤ i ∧ i < 1680) : 0 ≤ i ∧ hasL w 43 i.toNat := by
  obtain ⟨f, h1⟩ := kl_43 hC
  exact ⟨hi.1, _, _, h1, by decide, by omega⟩
theorem kl_44 {w : xW} (hC : CS w) : lenI w 44 46 := by
  obtain ⟨c, h1, h2⟩ := hC.2 44 (by decide)
  obtain ⟨x0, rfl⟩ := h2
  exact ⟨_, h1⟩
theorem kh_44 {w : xW} {i : Int} (hC : CS w) (hi : 0 ≤ i ∧ i < 46) : 0 ≤ i ∧ hasI w 44 i.toNat := by
  obtain ⟨f, h1⟩ := kl_44 hC
  exact ⟨hi.1, _, _, h1, by decide, by omega⟩
theorem kl_45 {w : xW} (hC : CS w) : lenL w 45 40 := by
  obtain ⟨c, h1, h2⟩ := hC.2 45 (by decide)
  obtain ⟨x0, rfl⟩ := h2
  exact ⟨_, h1⟩
theorem kh_45 {w : xW} {i : Int} (hC : CS w) (hi : 0 ≤ i ∧ i < 40) : 0 ≤ i ∧ hasL w 45 i.toNat := by
  obtain ⟨f, h1⟩ := kl_45 hC
  exact ⟨hi.1, _, _, h1, by decide, by omega⟩
theorem kl_46 {w : xW} (hC : CS w) : lenL w 46 40 := by
  obtain ⟨c, h1, h2⟩ := hC.2 46 (by decide)
  obtain ⟨x0, rfl⟩ := h2
  exact ⟨_, h1⟩
theorem kh_46 {w : xW} {i : Int} (hC : CS w) (hi : 0 ≤ i ∧ i < 40) : 0 ≤ i ∧ hasL w 46 i.toNat := by
  obtain ⟨f, h1⟩ := kl_46 hC
  exact ⟨hi.1, _, _, h1, by decide, by omega⟩
theorem kl_47 {w : xW} (hC : CS w) : lenI w 47 63 := by
  obtain ⟨c, h1, h2⟩ := hC.2 47 (by decide)
  obtain ⟨x0, rfl⟩ := h2
  exact ⟨_, h1⟩
theorem kh_47 {w : xW} {i : Int} (hC : CS w) (hi : 0 ≤ i ∧ i < 63) : 0 ≤ i ∧ hasI w 47 i.toNat := by
  obtain ⟨f, h1⟩ := kl_47 hC
  exact ⟨hi.1, _, _, h1, by decide, by omega⟩
theorem kl_48 {w : xW} (hC : CS w) : lenL w 48 117 := by
  obtain ⟨c, h1, h2⟩ := hC.2 48 (by decide)
  obtain ⟨x0, rfl⟩ := h2
  exact ⟨_, h1⟩
theorem kh_48 {w : xW} {i : Int} (hC : CS w) (hi : 0 ≤ i ∧ i < 117) : 0 ≤ i ∧ hasL w 48 i.toNat := by
  obtain ⟨f, h1⟩ := kl_48 hC
  exact ⟨hi.1, _, _, h1, by decide, by omega⟩
theorem kl_49 {w : xW} (hC : CS w) : lenI w 49 200 := by
  obtain ⟨c, h1, h2⟩ := hC.2 49 (by decide)
  obtain ⟨x0, rfl⟩ := h2
  exact ⟨_, h1⟩
theorem kh_49 {w : xW} {i : Int} (hC : CS w) (hi : 0 ≤ i ∧ i < 200) : 0 ≤ i ∧ hasI w 49 i.toNat := by
  obtain ⟨f, h1⟩ := kl_49 hC
  exact ⟨hi.1, _, _, h1, by decide, by omega⟩
theorem kl_50 {w : xW} (hC : CS w) : lenI w 50 200 := by
  obtain ⟨c, h1, h2⟩ := hC.2 50 (by decide)
  obtain ⟨x0, rfl⟩ := h2
  exact ⟨_, h1⟩
theorem kh_50 {w : xW} {i : Int} (hC : CS w) (hi : 0 ≤ i ∧ i < 200) : 0 ≤ i ∧ hasI w 50 i.toNat := by
  obtain ⟨f, h1⟩ := kl_50 hC
  exact ⟨hi.1, _, _, h1, by decide, by omega⟩
theorem kl_51 {w : xW} (hC : CS w) : lenI w 51 200 := by
  obtain ⟨c, h1, h2⟩ := hC.2 51 (by decide)
  obtain ⟨x0, rfl⟩ := h2
  exact ⟨_, h1⟩
theorem kh_51 {w : xW} {i : Int} (hC : CS w) (hi : 0 ≤ i ∧ i < 200) : 0 ≤ i ∧ hasI w 51 i.toNat := by
  obtain ⟨f, h1⟩ := kl_51 hC
  exact ⟨hi.1, _, _, h1, by decide, by omega⟩
theorem kl_52 {w : xW} (hC : CS w) : lenI w 52 200 := by
  obtain ⟨c, h1, h2⟩ := hC.2 52 (by decide)
  obtain ⟨x0, rfl⟩ := h2
  exact ⟨_, h1⟩
theorem kh_52 {w : xW} {i : Int} (hC : CS w) (hi : 0 ≤ i ∧ i < 200) : 0 ≤ i ∧ hasI w 52 i.toNat := by
  obtain ⟨f, h1⟩ := kl_52 hC
  exact ⟨hi.1, _, _, h1, by decide, by omega⟩
theorem kl_53 {w : xW} (hC : CS w) : lenI w 53 5 := by
  obtain ⟨c, h1, h2⟩ := hC.2 53 (by decide)
  obtain ⟨x0, rfl⟩ := h2
  exact ⟨_, h1⟩
theorem kh_53 {w : xW} {i : Int} (hC : CS w) (hi : 0 ≤ i ∧ i < 5) : 0 ≤ i ∧ hasI w 53 i.toNat := by
  obtain ⟨f, h1⟩ := kl_53 hC
  exact ⟨hi.1, _, _, h1, by decide, by omega⟩
theorem kl_54 {w : xW} (hC : CS w) : lenL w 54 27 := by
  obtain ⟨c, h1, h2⟩ := hC.2 54 (by decide)
  obtain ⟨x0, rfl⟩ := h2
  exact ⟨_, h1⟩
theorem kh_54 {w : xW} {i : Int} (hC : CS w) (hi : 0 ≤ i ∧ i < 27) : 0 ≤ i ∧ hasL w 54 i.toNat := by
  obtain ⟨f, h1⟩ := kl_54 hC
  exact ⟨hi.1, _, _, h1, by decide, by omega⟩
theorem kl_55 {w : xW} (hC : CS w) : lenL w 55 27 := by
  obtain ⟨c, h1, h2⟩ := hC.2 55 (by decide)
  obtain ⟨x0, rfl⟩ := h2
  exact ⟨_, h1⟩
theorem kh_55 {w : xW} {i : Int} (hC : CS w) (hi : 0 ≤ i ∧ i < 27) : 0 ≤ i ∧ hasL w 55 i.toNat := by
  obtain ⟨f, h1⟩ := kl_55 hC
  exact ⟨hi.1, _, _, h1, by decide, by omega⟩
theorem kl_56 {w : xW} (hC : CS w) : lenL w 56 32 := by
  obtain ⟨c, h1, h2⟩ := hC.2 56 (by decide)
  obtain ⟨x0, rfl⟩ := h2
  exact ⟨_, h1⟩
theorem kh_56 {w : xW} {i : Int} (hC : CS w) (hi : 0 ≤ i ∧ i < 32) : 0 ≤ i ∧ hasL w 56 i.toNat := by
  obtain ⟨f, h1⟩ := kl_56 hC
  exact ⟨hi.1, _, _, h1, by decide, by omega⟩
theorem kl_57 {w : xW} (hC : CS w) : lenL w 57 32 := by
  obtain ⟨c, h1, h2⟩ := hC.2 57 (by decide)
  obtain ⟨x0, rfl⟩ := h2
  exact ⟨_, h1⟩
theorem kh_57 {w : xW} {i : Int} (hC : CS w) (hi : 0 ≤ i ∧ i < 32) : 0 ≤ i ∧ hasL w 57 i.toNat := by
  obtain ⟨f, h1⟩ := kl_57 hC
  exact ⟨hi.1, _, _, h1, by decide, by omega⟩
theorem kl_58 {w : xW} (hC : CS w) : lenL w 58 26 := by
  obtain ⟨c, h1, h2⟩ := hC.2 58 (by decide)
  obtain ⟨x0, rfl⟩ := h2
  exact ⟨_, h1⟩
theorem kh_58 {w : xW} {i : Int} (hC : CS w) (hi : 0 ≤ i ∧ i < 26) : 0 ≤ i ∧ hasL w 58 i.toNat := by
  obtain ⟨f, h1⟩ := kl_58 hC
  exact ⟨hi.1, _, _, h1, by decide, by omega⟩
theorem kl_59 {w : xW} (hC : CS w) : lenL w 59 32 := by
  obtain ⟨c, h1, h2⟩ := hC.2 59 (by decide)
  obtain ⟨x0, rfl⟩ := h2
  exact ⟨_, h1⟩
theorem kh_59 {w : xW} {i : Int} (hC : CS w) (hi : 0 ≤ i ∧ i < 32) : 0 ≤ i ∧ hasL w 59 i.toNat := by
  obtain ⟨f, h1⟩ := kl_59 hC
  exact ⟨hi.1, _, _, h1, by decide, by omega⟩
theorem kl_60 {w : xW} (hC : CS w) : lenL w 60 9 := by
  obtain ⟨c, h1, h2⟩ := hC.2 60 (by decide)
  obtain ⟨x0, rfl⟩ := h2
  exact ⟨_, h1⟩
theorem kh_60 {w : xW} {i : Int} (hC : CS w) (hi : 0 ≤ i ∧ i < 9) : 0 ≤ i ∧ hasL w 60 i.toNat := by
  obtain ⟨f, h1⟩ := kl_60 hC
  exact ⟨hi.1, _, _, h1, by decide, by omega⟩
theorem kl_61 {w : xW} (hC : CS w) : lenL w 61 9 := by
  obtain ⟨c, h1, h2⟩ := hC.2 61 (by decide)
  obtain ⟨x0, rfl⟩ := h2
  exact ⟨_, h1⟩
theorem kh_61 {w : xW} {i : Int} (hC : CS w) (hi : 0 ≤ i ∧ i < 9) : 0 ≤ i ∧ hasL w 61 i.toNat := by
  obtain ⟨f, h1⟩ := kl_61 hC
  exact ⟨hi.1, _, _, h1, by decide, by omega⟩
theorem kl_62 {w : xW} (hC : CS w) : lenL w 62 3 := by
  obtain ⟨c, h1, h2⟩ := hC.2 62 (by decide)
  obtain ⟨x0, rfl⟩ := h2
  exact ⟨_, h1⟩
theorem kh_62 {w : xW} {i : Int} (hC : CS w) (hi : 0 ≤ i ∧ i < 3) : 0 ≤ i ∧ hasL w 62 i.toNat := by
  obtain ⟨f, h1⟩ := kl_62 hC
  exact ⟨hi.1, _, _, h1, by decide, by omega⟩
theorem kl_63 {w : xW} (hC : CS w) : lenI w 63 39 := by
  obtain ⟨c, h1, h2⟩ := hC.2 63 (by decide)
  obtain ⟨x0, rfl⟩ := h2
  exact ⟨_, h1⟩
theorem kh_63 {w : xW} {i : Int} (hC : CS w) (hi : 0 ≤ i ∧ i < 39) : 0 ≤ i ∧ hasI w 63 i.toNat := by
  obtain ⟨f, h1⟩ := kl_63 hC
  exact ⟨hi.1, _, _, h1, by decide, by omega⟩
theorem kl_64 {w : xW} (hC : CS w) : lenL w 64 32 := by
  obtain ⟨c, h1, h2⟩ := hC.2 64 (by decide)
  obtain ⟨x0, rfl⟩ := h2
  exact ⟨_, h1⟩
theorem kh_64 {w : xW} {i : Int} (hC : CS w) (hi : 0 ≤ i ∧ i < 32) : 0 ≤ i ∧ hasL w 64 i.toNat := by
  obtain ⟨f, h1⟩ := kl_64 hC
  exact ⟨hi.1, _, _, h1, by decide, by omega⟩
theorem kl_65 {w : xW} (hC : CS w) : lenL w 65 24 := by
  obtain ⟨c, h1, h2⟩ := hC.2 65 (by decide)
  obtain ⟨x0, rfl⟩ := h2
  exact ⟨_, h1⟩
theorem kh_65 {w : xW} {i : Int} (hC : CS w) (hi : 0 ≤ i ∧ i < 24) : 0 ≤ i ∧ hasL w 65 i.toNat := by
  obtain ⟨f, h1⟩ := kl_65 hC
  exact ⟨hi.1, _, _, h1, by decide, by omega⟩
theorem kl_66 {w : xW} (hC : CS w) : lenL w 66 24 := by
  obtain ⟨c, h1, h2⟩ := hC.2 66 (by decide)
  obtain ⟨x0, rfl⟩ := h2
  exact ⟨_, h1⟩
theorem kh_66 {w : xW} {i : Int} (hC : CS w) (hi : 0 ≤ i ∧ i < 24) : 0 ≤ i ∧ hasL w 66 i.toNat := by
  obtain ⟨f, h1⟩ := kl_66 hC
  exact ⟨hi.1, _, _, h1, by decide, by omega⟩
theorem kl_67 {w : xW} (hC : CS w) : lenL w 67 1 := by
  obtain ⟨c, h1, h2⟩ := hC.2 67 (by decide)
  obtain ⟨x0, rfl⟩ := h2
  exact ⟨_, h1⟩
theorem kh_67 {w : xW} {i : Int} (hC : CS w) (hi : 0 ≤ i ∧ i < 1) : 0 ≤ i ∧ hasL w 67 i.toNat := by
  obtain ⟨f, h1⟩ := kl_67 hC
  exact ⟨hi.1, _, _, h1, by decide, by omega⟩
theorem kh_e_1 {w : xW} {e : Nat} {i : Int} (he : eIs e) (hC : CS w) (hi : 0 ≤ i ∧ i < 39) : 0 ≤ i ∧ hasL w (e + 1) i.toNat := by
  rcases he with rfl | rfl | rfl
  · exact kh_8 hC hi
  · exact kh_13 hC hi
  · exact kh_18 hC hi
theorem kh_e_2 {w : xW} {e : Nat} {i : Int} (he : eIs e) (hC : CS w) (hi : 0 ≤ i ∧ i < 39) : 0 ≤ i ∧ hasL w (e + 2) i.toNat := by
  rcases he with rfl | rfl | rfl
  · exact kh_9 hC hi
  · exact kh_14 hC hi
  · exact kh_19 hC hi
theorem kh_e_3 {w : xW} {e : Nat} {i : Int} (he : eIs e) (hC : CS w) (hi : 0 ≤ i ∧ i < 39) : 0 ≤ i ∧ hasL w (e + 3) i.toNat := by
  rcases he with rfl | rfl | rfl
  · exact kh_10 hC hi
  · exact kh_15 hC hi
  · exact kh_20 hC hi
theorem cshp_aL {n : Nat} {f g : Nat → Int64} : ∀ a, cshp a (aL n f) → cshp a (aL n g)
  | 0, h => by
    obtain ⟨_, h⟩ := h
    exact aL_o h
  | 1, h => aL_o h
  | 2, h => by
    obtain ⟨k, h⟩ := h
    exact ⟨g, by rw [(aL_inj h).1]⟩
  | 3, h => by
    obtain ⟨_, _, _, h⟩ := h
    exact aL_o h
  | 4, h => by
    obtain ⟨_, h⟩ := h
    exact aL_o h
  | 5, h => by
    obtain ⟨k, h⟩ := h
    exact ⟨g, by rw [(aL_inj h).1]⟩
  | 6, h => by
    obtain ⟨k, h⟩ := h
    exact ⟨g, by rw [(aL_inj h).1]⟩
  | 7, h => aL_o h
  | 8, h => by
    obtain ⟨k, h⟩ := h
    exact ⟨g, by rw [(aL_inj h).1]⟩
  | 9, h => by
    obtain ⟨k, h⟩ := h
    exact ⟨g, by rw [(aL_inj h).1]⟩
  | 10, h => by
    obtain ⟨k, h⟩ := h
    exact ⟨g, by rw [(aL_inj h).1]⟩
  | 11, h => by
    obtain ⟨_, _, _, h⟩ := h
    exact aL_o h
  | 12, h => aL_o h
  | 13, h => by
    obtain ⟨k, h⟩ := h
    exact ⟨g, by rw [(aL_inj h).1]⟩
  | 14, h => by
    obtain ⟨k, h⟩ := h
    exact ⟨g, by rw [(aL_inj h).1]⟩
  | 15, h => by
    obtain ⟨k, h⟩ := h
    exact ⟨g, by rw [(aL_inj h).1]⟩
  | 16, h => by
    obtain ⟨_, _, _, h⟩ := h
    exact aL_o h
  | 17, h => aL_o h
  | 18, h => by
    obtain ⟨k, h⟩ := h
    exact ⟨g, by rw [(aL_inj h).1]⟩
  | 19, h => by
    obtain ⟨k, h⟩ := h
    exact ⟨g, by rw [(aL_inj h).1]⟩
  | 20, h => by
    obtain ⟨k, h⟩ := h
    exact ⟨g, by rw [(aL_inj h).1]⟩
  | 21, h => by
    obtain ⟨_, _, _, h⟩ := h
    exact aL_o h
  | 22, h => by
    obtain ⟨k, h⟩ := h
    exact aL_aI h
  | 23, h => aL_o h
  | 24, h => by
    obtain ⟨_, h⟩ := h
    exact aL_o h
  | 25, h => by
    obtain ⟨k, h⟩ := h
    exact aL_aI h
  | 26, h => by
    obtain ⟨k, h⟩ := h
    exact aL_aI h
  | 27, h => by
    obtain ⟨k, h⟩ := h
    exact aL_aI h
  | 28, h => by
    obtain ⟨_, _, h⟩ := h
    exact aL_o h
  | 29, h => by
    obtain ⟨k, h⟩ := h
    exact ⟨g, by rw [(aL_inj h).1]⟩
  | 30, h => by
    obtain ⟨k, h⟩ := h
    exact ⟨g, by rw [(aL_inj h).1]⟩
  | 31, h => by
    obtain ⟨_, _, h⟩ := h
    exact aL_o h
  | 32, h => by
    obtain ⟨k, h⟩ := h
    exact aL_aI h
  | 33, h => by
    obtain ⟨k, h⟩ := h
    exact aL_aI h
  | 34, h => by
    obtain ⟨_, h⟩ := h
    exact aL_o h
  | 35, h => by
    obtain ⟨k, h⟩ := h
    exact ⟨g, by rw [(aL_inj h).1]⟩
  | 36, h => by
    obtain ⟨_, _, _, h⟩ := h
    exact aL_o h
  | 37, h => by
    obtain ⟨k, h⟩ := h
    exact ⟨g, by rw [(aL_inj h).1]⟩
  | 38, h => by
    obtain ⟨k, h⟩ := h
    exact ⟨g, by rw [(aL_inj h).1]⟩
  | 39, h => by
    obtain ⟨_, _, _, _, _, _, _, h⟩ := h
    exact aL_o h
  | 40, h => by
    obtain ⟨k, h⟩ := h
    exact ⟨g, by rw [(aL_inj h).1]⟩
  | 41, h => by
    obtain ⟨k, h⟩ := h
    exact ⟨g, by rw [(aL_inj h).1]⟩
  | 42, h => by
    obtain ⟨k, h⟩ := h
    exact aL_aI h
  | 43, h => by
    obtain ⟨k, h⟩ := h
    exact ⟨g, by rw [(aL_inj h).1]⟩
  | 44, h => by
    obtain ⟨k, h⟩ := h
    exact aL_aI h
  | 45, h => by
    obtain ⟨k, h⟩ := h
    exact ⟨g, by rw [(aL_inj h).1]⟩
  | 46, h => by
    obtain ⟨k, h⟩ := h
    exact ⟨g, by rw [(aL_inj h).1]⟩
  | 47, h => by
    obtain ⟨k, h⟩ := h
    exact aL_aI h
  | 48, h => by
    obtain ⟨k, h⟩ := h
    exact ⟨g, by rw [(aL_inj h).1]⟩
  | 49, h => by
    obtain ⟨k, h⟩ := h
    exact aL_aI h
  | 50, h => by
    obtain ⟨k, h⟩ := h
    exact aL_aI h
  | 51, h => by
    obtain ⟨k, h⟩ := h
    exact aL_aI h
  | 52, h => by
    obtain ⟨k, h⟩ := h
    exact aL_aI h
  | 53, h => by
    obtain ⟨k, h⟩ := h
    exact aL_aI h
  | 54, h => by
    obtain ⟨k, h⟩ := h
    exact ⟨g, by rw [(aL_inj h).1]⟩
  | 55, h => by
    obtain ⟨k, h⟩ := h
    exact ⟨g, by rw [(aL_inj h).1]⟩
  | 56, h => by
    obtain ⟨k, h⟩ := h
    exact ⟨g, by rw [(aL_inj h).1]⟩
  | 57, h => by
    obtain ⟨k, h⟩ := h
    exact ⟨g, by rw [(aL_inj h).1]⟩
  | 58, h => by
    obtain ⟨k, h⟩ := h
    exact ⟨g, by rw [(aL_inj h).1]⟩
  | 59, h => by
    obtain ⟨k, h⟩ := h
    exact ⟨g, by rw [(aL_inj h).1]⟩
  | 60, h => by
    obtain ⟨k, h⟩ := h
    exact ⟨g, by rw [(aL_inj h).1]⟩
  | 61, h => by
    obtain ⟨k, h⟩ := h
    exact ⟨g, by rw [(aL_inj h).1]⟩
  | 62, h => by
    obtain ⟨k, h⟩ := h
    exact ⟨g, by rw [(aL_inj h).1]⟩
  | 63, h => by
    obtain ⟨k, h⟩ := h
    exact aL_aI h
  | 64, h => by
    obtain ⟨k, h⟩ := h
    exact ⟨g, by rw [(aL_inj h).1]⟩
  | 65, h => by
    obtain ⟨k, h⟩ := h
    exact ⟨g, by rw [(aL_inj h).1]⟩
  | 66, h => by
    obtain ⟨k, h⟩ := h
    exact ⟨g, by rw [(aL_inj h).1]⟩
  | 67, h => by
    obtain ⟨k, h⟩ := h
    exact ⟨g, by rw [(aL_inj h).1]⟩
  | _ + 68, _ => trivial
theorem CS.putL {w : xW} {a i : Nat} {v : Int64} (hC : CS w) : CS (pL w a i v) := by
  unfold pL
  split
  · rename_i n f h
    by_cases ha : a < 68
    · obtain ⟨c, h1, h2⟩ := hC.2 a ha
      rw [h] at h1
      have e := Option.some.inj h1
      subst e
      exact hC.set (cshp_aL a h2)
    · refine hC.set ?_
      obtain ⟨b, rfl⟩ : ∃ b, a = b + 68 := ⟨a - 68, by omega⟩
      trivial
  · exact hC
theorem cshp_aI {n : Nat} {f g : Nat → Int32} : ∀ a, cshp a (aI n f) → cshp a (aI n g)
  | 0, h => by
    obtain ⟨_, h⟩ := h
    exact aI_o h
  | 1, h => aI_o h
  | 2, h => by
    obtain ⟨k, h⟩ := h
    exact aL_aI h.symm
  | 3, h => by
    obtain ⟨_, _, _, h⟩ := h
    exact aI_o h
  | 4, h => by
    obtain ⟨_, h⟩ := h
    exact aI_o h
  | 5, h => by
    obtain ⟨k, h⟩ := h
    exact aL_aI h.symm
  | 6, h => by
    obtain ⟨k, h⟩ := h
    exact aL_aI h.symm
  | 7, h => aI_o h
  | 8, h => by
    obtain ⟨k, h⟩ := h
    exact aL_aI h.symm
  | 9, h => by
    obtain ⟨k, h⟩ := h
    exact aL_aI h.symm
  | 10, h => by
    obtain ⟨k, h⟩ := h
    exact aL_aI h.symm
  | 11, h => by
    obtain ⟨_, _, _, h⟩ := h
    exact aI_o h
  | 12, h => aI_o h
  | 13, h => by
    obtain ⟨k, h⟩ := h
    exact aL_aI h.symm
  | 14, h => by
    obtain ⟨k, h⟩ := h
    exact aL_aI h.symm
  | 15, h => by
    obtain ⟨k, h⟩ := h
    exact aL_aI h.symm
  | 16, h => by
    obtain ⟨_, _, _, h⟩ := h
    exact aI_o h
  | 17, h => aI_o h
  | 18, h => by
    obtain ⟨k, h⟩ := h
    exact aL_aI h.symm
  | 19, h => by
    obtain ⟨k, h⟩ := h
    exact aL_aI h.symm
  | 20, h => by
    obtain ⟨k, h⟩ := h
    exact aL_aI h.symm
  | 21, h => by
    obtain ⟨_, _, _, h⟩ := h
    exact aI_o h
  | 22, h => by
    obtain ⟨k, h⟩ := h
    exact ⟨g, by rw [(aI_inj h).1]⟩
  | 23, h => aI_o h
  | 24, h => by
    obtain ⟨_, h⟩ := h
    exact aI_o h
  | 25, h => by
    obtain ⟨k, h⟩ := h
    exact ⟨g, by rw [(aI_inj h).1]⟩
  | 26, h => by
    obtain ⟨k, h⟩ := h
    exact ⟨g, by rw [(aI_inj h).1]⟩
  | 27, h => by
    obtain ⟨k, h⟩ := h
    exact ⟨g, by rw [(aI_inj h).1]⟩
  | 28, h => by
    obtain ⟨_, _, h⟩ := h
    exact aI_o h
  | 29, h => by
    obtain ⟨k, h⟩ := h
    exact aL_aI h.symm
  | 30, h => by
    obtain ⟨k, h⟩ := h
    exact aL_aI h.symm
  | 31, h => by
    obtain ⟨_, _, h⟩ := h
    exact aI_o h
  | 32, h => by
    obtain ⟨k, h⟩ := h
    exact ⟨g, by rw [(aI_inj h).1]⟩
  | 33, h => by
    obtain ⟨k, h⟩ := h
    exact ⟨g, by rw [(aI_inj h).1]⟩
  | 34, h => by
    obtain ⟨_, h⟩ := h
    exact aI_o h
  | 35, h => by
    obtain ⟨k, h⟩ := h
    exact aL_aI h.symm
  | 36, h => by
    obtain ⟨_, _, _, h⟩ := h
    exact aI_o h
  | 37, h => by
    obtain ⟨k, h⟩ := h
    exact aL_aI h.symm
  | 38, h => by
    obtain ⟨k, h⟩ := h
    exact aL_aI h.symm
  | 39, h => by
    obtain ⟨_, _, _, _, _, _, _, h⟩ := h
    exact aI_o h
  | 40, h => by
    obtain ⟨k, h⟩ := h
    exact aL_aI h.symm
  | 41, h => by
    obtain ⟨k, h⟩ := h
    exact aL_aI h.symm
  | 42, h => by
    obtain ⟨k, h⟩ := h
    exact ⟨g, by rw [(aI_inj h).1]⟩
  | 43, h => by
    obtain ⟨k, h⟩ := h
    exact aL_aI h.symm
  | 44, h => by
    obtain ⟨k, h⟩ := h
    exact ⟨g, by rw [(aI_inj h).1]⟩
  | 45, h => by
    obtain ⟨k, h⟩ := h
    exact aL_aI h.symm
  | 46, h => by
    obtain ⟨k, h⟩ := h
    exact aL_aI h.symm
  | 47, h => by
    obtain ⟨k, h⟩ := h
    exact ⟨g, by rw [(aI_inj h).1]⟩
  | 48, h => by
    obtain ⟨k, h⟩ := h
    exact aL_aI h.symm
  | 49, h => by
    obtain ⟨k, h⟩ := h
    exact ⟨g, by rw [(aI_inj h).1]⟩
  | 50, h => by
    obtain ⟨k, h⟩ := h
    exact ⟨g, by rw [(aI_inj h).1]⟩
  | 51, h => by
    obtain ⟨k, h⟩ := h
    exact ⟨g, by rw [(aI_inj h).1]⟩
  | 52, h => by
    obtain ⟨k, h⟩ := h
    exact ⟨g, by rw [(aI_inj h).1]⟩
  | 53, h => by
    obtain ⟨k, h⟩ := h
    exact ⟨g, by rw [(aI_inj h).1]⟩
  | 54, h => by
    obtain ⟨k, h⟩ := h
    exact aL_aI h.symm
  | 55, h => by
    obtain ⟨k, h⟩ := h
    exact aL_aI h.symm
  | 56, h => by
    obtain ⟨k, h⟩ := h
    exact aL_aI h.symm
  | 57, h => by
    obtain ⟨k, h⟩ := h
    exact aL_aI h.symm
  | 58, h => by
    obtain ⟨k, h⟩ := h
    exact aL_aI h.symm
  | 59, h => by
    obtain ⟨k, h⟩ := h
    exact aL_aI h.symm
  | 60, h => by
    obtain ⟨k, h⟩ := h
    exact aL_aI h.symm
  | 61, h => by
    obtain ⟨k, h⟩ := h
    exact aL_aI h.symm
  | 62, h => by
    obtain ⟨k, h⟩ := h
    exact aL_aI h.symm
  | 63, h => by
    obtain ⟨k, h⟩ := h
    exact ⟨g, by rw [(aI_inj h).1]⟩
  | 64, h => by
    obtain ⟨k, h⟩ := h
    exact aL_aI h.symm
  | 65, h => by
    obtain ⟨k, h⟩ := h
    exact aL_aI h.symm
  | 66, h => by
    obtain ⟨k, h⟩ := h
    exact aL_aI h.symm
  | 67, h => by
    obtain ⟨k, h⟩ := h
    exact aL_aI h.symm
  | _ + 68, _ => trivial
theorem CS.putI {w : xW} {a i : Nat} {v : Int32} (hC : CS w) : CS (pI w a i v) := by
  unfold pI
  split
  · rename_i n f h
    by_cases ha : a < 68
    · obtain ⟨c, h1, h2⟩ := hC.2 a ha
      rw [h] at h1
      have e := Option.some.inj h1
      subst e
      exact hC.set (cshp_aI a h2)
    · refine hC.set ?_
      obtain ⟨b, rfl⟩ : ∃ b, a = b + 68 := ⟨a - 68, by omega⟩
      trivial
  · exact hC
/-! what a write leaves -/
theorem sm_pF {w : xW} {a j : Nat} {v : Value} {S : List Nat} (h : a ∈ S) : xsame S w (pF w a j v) := by
  unfold pF
  split
  · exact xsame.set h
  · exact xsame.rf
theorem sm_pI {w : xW} {a i : Nat} {v : Int32} {S : List Nat} (h : a ∈ S) : xsame S w (pI w a i v) := by
  unfold pI
  split
  · exact xsame.set h
  · exact xsame.rf
theorem sm_pL {w : xW} {a i : Nat} {v : Int64} {S : List Nat} (h : a ∈ S) : xsame S w (pL w a i v) := by
  unfold pL
  split
  · exact xsame.set h
  · exact xsame.rf
section SM
variable {S : List Nat} {w w' : xW} {a ci i j : Nat} {z : Int}
theorem fI.sm (h : fI w a ci j z) (hs : xsame S w w') (ha : a ∉ S) : fI w' a ci j z := by
  obtain ⟨fs, h1, h2⟩ := h
  exact ⟨fs, hs.get ha h1, h2⟩
theorem fJ.sm (h : fJ w a ci j z) (hs : xsame S w w') (ha : a ∉ S) : fJ w' a ci j z := by
  obtain ⟨fs, h1, h2⟩ := h
  exact ⟨fs, hs.get ha h1, h2⟩
theorem rI.sm (h : rI w a i z) (hs : xsame S w w') (ha : a ∉ S) : rI w' a i z := by
  obtain ⟨n, f, h1, h2⟩ := h
  exact ⟨n, f, hs.get ha h1, h2⟩
theorem rL.sm (h : rL w a i z) (hs : xsame S w w') (ha : a ∉ S) : rL w' a i z := by
  obtain ⟨n, f, h1, h2⟩ := h
  exact ⟨n, f, hs.get ha h1, h2⟩
end SM
theorem upd_eq {f : Nat → Int32} {i : Nat} {v : Int32} : upd f i v i = v := by simp [upd]
theorem upd_neq {f : Nat → Int32} {i j : Nat} {v : Int32} (h : j ≠ i) : upd f i v j = f j := by simp [upd, h]
theorem updL_eq {f : Nat → Int64} {i : Nat} {v : Int64} : vp_updL f i v i = v := by simp [vp_updL]
theorem updL_neq {f : Nat → Int64} {i j : Nat} {v : Int64} (h : j ≠ i) : vp_updL f i v j = f j := by simp [vp_updL, h]
section GS
variable {w : xW} {a ci i j n : Nat} {z y : Int}
theorem lenL.has (h : lenL w a n) (hn : n ≤ 1000000) (hi : i < n) : hasL w a i := by
  obtain ⟨f, h⟩ := h
  exact ⟨n, f, h, hn, hi⟩
theorem lenI.has (h : lenI w a n) (hn : n ≤ 1000000) (hi : i < n) : hasI w a i := by
  obtain ⟨f, h⟩ := h
  exact ⟨n, f, h, hn, hi⟩
theorem hasL.put (h : hasL w a i) : rL (pL w a i (jL z)) a i z := by
  obtain ⟨n, f, h1, h2, h3⟩ := h
  rw [pL_of h1]
  exact ⟨n, _, set_get h1, h2, h3, updL_eq⟩
theorem hasI.put (h : hasI w a i) : rI (pI w a i (jI z)) a i z := by
  obtain ⟨n, f, h1, h2, h3⟩ := h
  rw [pI_of h1]
  exact ⟨n, _, set_get h1, h2, h3, upd_eq⟩
theorem rL.put {v : Int64} (h : rL w a j z) (hj : j ≠ i) : rL (pL w a i v) a j z := by
  obtain ⟨n, f, h1, h2, h3, h4⟩ := h
  rw [pL_of h1]
  exact ⟨n, _, set_get h1, h2, h3, by rw [updL_neq hj]; exact h4⟩
theorem rI.put {v : Int32} (h : rI w a j z) (hj : j ≠ i) : rI (pI w a i v) a j z := by
  obtain ⟨n, f, h1, h2, h3, h4⟩ := h
  rw [pI_of h1]
  exact ⟨n, _, set_get h1, h2, h3, by rw [upd_neq hj]; exact h4⟩
theorem hasF.putI (h : hasF w a ci j) : fI (pF w a j (.int (jI z))) a ci j z := by
  obtain ⟨fs, h1, h2⟩ := h
  rw [pF_of h1]
  exact ⟨_, set_get h1, by rw [List.getElem?_set_self h2]⟩
theorem hasF.putJ (h : hasF w a ci j) : fJ (pF w a j (.long (jL z))) a ci j z := by
  obtain ⟨fs, h1, h2⟩ := h
  rw [pF_of h1]
  exact ⟨_, set_get h1, by rw [List.getElem?_set_self h2]⟩
theorem fI.put {v : Value} (h : fI w a ci j z) (hj : i ≠ j) : fI (pF w a i v) a ci j z := by
  obtain ⟨fs, h1, h2⟩ := h
  rw [pF_of h1]
  exact ⟨_, set_get h1, by rw [List.getElem?_set_ne hj]; exact h2⟩
theorem fJ.put {v : Value} (h : fJ w a ci j z) (hj : i ≠ j) : fJ (pF w a i v) a ci j z := by
  obtain ⟨fs, h1, h2⟩ := h
  rw [pF_of h1]
  exact ⟨_, set_get h1, by rw [List.getElem?_set_ne hj]; exact h2⟩
end GS
