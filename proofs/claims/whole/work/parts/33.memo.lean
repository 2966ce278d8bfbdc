/-! THE MEMO -/
theorem drop_c {α : Type} {me l : List α} {q : α} {i : Nat} (h : me.drop i = q :: l) : me[i]? = some q ∧ me.drop (i + 1) = l ∧ i < me.length := by
  have h1 : me[i]? = some q := by
    have := List.getElem?_drop (xs := me) (i := i) (j := 0)
    rw [h] at this
    simpa using this.symm
  refine ⟨h1, ?_, (List.getElem?_eq_some_iff.mp h1).1⟩
  have : me.drop (i + 1) = (me.drop i).drop 1 := by rw [List.drop_drop]
  rw [this, h]
  rfl
theorem drop_n {α : Type} {me : List α} {i : Nat} (h : me.drop i = []) : me.length ≤ i := List.drop_eq_nil_iff.mp h
def mpl (n p : Int) : memT → Nat
  | [] => 0
  | q :: l => if q.1 = n ∧ q.2.1 = p then 0 else mpl n p l + 1
theorem mpl_le (n p : Int) : ∀ l, mpl n p l ≤ l.length
  | [] => Nat.le_refl _
  | q :: l => by
    show (if q.1 = n ∧ q.2.1 = p then 0 else mpl n p l + 1) ≤ l.length + 1
    have := mpl_le n p l
    split
    · omega
    · omega
def memR (me : memT) (n p v : Int) : memT := if mpl n p me < me.length then me.set (mpl n p me) (n, p, v) else (if me.length = 20 then me.drop 1 else me) ++ [(n, p, v)]
section MEMO
variable {c : Nat} {E : eT} {t : Int} {ws : Nat → Int} {me : memT} {w : xW}
theorem ok_m (ok : okS c E t ws me) {k : Nat} {q : Int × Int × Int} (hq : me[k]? = some q) : in32 q.1 ∧ in32 q.2.1 ∧ in32 q.2.2 ∧ 0 ≤ q.1 ∧ q.1 ≤ t ∧ isPr q.2.1 ∧ 0 ≤ q.2.2 ∧ q.2.2 < q.2.1 := by
  obtain ⟨hc, ht1, ht2, -, -, -, hm⟩ := ok
  obtain ⟨h1, h2, h3, h4, h5⟩ := hm q (List.mem_of_getElem? hq)
  obtain ⟨p, -, e, g1, g2⟩ := isPr_nat h3
  refine ⟨⟨by omega, by omega⟩, ⟨by omega, by omega⟩, ⟨by omega, by omega⟩, h1, h2, h3, h4, h5⟩
theorem cst.mem (h : cst E t ws me w) (ht : t ≤ 38) {me' : memT} {w' : xW} (hs : xsame [24, 25, 26, 27] w w') (hC : CS w') (hz : fI w' 24 7 3 me'.length) (hm : ∀ (k : Nat) (q : Int × Int × Int), me'[k]? = some q → rI w' 25 k q.1 ∧ rI w' 26 k q.2.1 ∧ rI w' 27 k q.2.2) : cst E t ws me' w' := by
  refine cst_of hC (h.top.sm hs (by decide)) (fun n k q1 q2 => (h.cb q1 q2).sm hs (by decide)) (fun n q => ?_) (fun n q => ?_) (fun n q => (h.wy ht q).sm hs (by decide)) hz hm ?_ ?_
  · obtain ⟨a, b, c⟩ := h.rt q
    exact ⟨a.sm hs (by decide), b.sm hs (by decide), c.sm hs (by decide)⟩
  · obtain ⟨a, b, c⟩ := h.nw ht q
    exact ⟨a.sm hs (by decide), b.sm hs (by decide), c.sm hs (by decide)⟩
  · obtain ⟨-, -, -, -, -, -, -, ⟨fp, fw, f28, a28, b28, k28⟩, -⟩ := h
    exact ⟨fp, fw, f28, hs.get (by decide) a28, hs.get (by decide) b28, k28⟩
  · obtain ⟨-, -, -, -, -, -, -, -, ⟨s, f31, g31, hs31, a31, b31, c31, k31⟩⟩ := h
    exact ⟨s, f31, g31, hs31, hs.get (by decide) a31, hs.get (by decide) b31, hs.get (by decide) c31, k31⟩
theorem mst.mem (h : mst E t ws me w) (ht : t ≤ 38) {me' : memT} {w' : xW} (hs : xsame [39, 47] w w') (hC : CS w') (h1 : fI w' 39 12 4 t) (h2 : fI w' 39 12 7 46) (hz : fI w' 39 12 13 me'.length) (hm : ∀ (k : Nat) (q : Int × Int × Int), me'[k]? = some q → rI w' 47 (3 * k) q.1 ∧ rI w' 47 (3 * k + 1) q.2.1 ∧ rI w' 47 (3 * k + 2) q.2.2) : mst E t ws me' w' := by
  refine mst_of hC h1 h2 hz (fun n q => ?_) (fun n q => ?_) (fun n q => (h.wy ht q).sm hs (by decide)) (fun n k q1 q2 => (h.cb q1 q2).sm hs (by decide)) (fun j q => (h.pr q).sm hs (by decide)) hm ?_
  · obtain ⟨a, b, c⟩ := h.rt q
    exact ⟨a.sm hs (by decide), b.sm hs (by decide), c.sm hs (by decide)⟩
  · obtain ⟨a, b, c⟩ := h.nw ht q
    exact ⟨a.sm hs (by decide), b.sm hs (by decide), c.sm hs (by decide)⟩
  · obtain ⟨-, -, -, -, -, -, -, -, ⟨f53, h53, k53⟩⟩ := h
    exact ⟨f53, hs.get (by decide) h53, k53⟩
theorem C_mfits (hC : CS w) {z : Int} (hz : in32 z) {x : Int} (hx : in32 x) (h : fI w 24 7 3 x) : xCall 89 [.ref 24, .int (jI z)] w (some (.int (bz (0 ≤ z ∧ z < x ∧ z < 20))), w) :=
  Z_89 hC ⟨hz, fun c => by rw [bz_f (by omega)]; rfl, fun c => ⟨_, h, hx, fun d => by rw [bz_f (by omega)]; rfl, fun d => ⟨fun e => by rw [bz_f (by omega)]; rfl, fun e => by rw [bz_t (by omega)]; rfl⟩⟩⟩
theorem L_placeOf (h : cst E t ws me w) (ok : okS c E t ws me) {n p : Int} (hn : in32 n) (hp : in32 p) : ∀ (l : memT) (i : Nat), me.drop i = l → i ≤ me.length →
    xGo 87 2 [some (.ref 24), some (.int (jI n)), some (.int (jI p)), some (.int (jI i))] [] w (some (.int (jI ((i + mpl n p l : Nat) : Int))), w)
  | [], i, hd, hi => by
    have hl := ok.2.2.2.2.2.1
    have := drop_n hd
    refine Z_87_2 h.1 ⟨_, h.mz, s32, s32, fun _ => ?_, fun c => by omega⟩
    show (some (Value.int (jI ((i + 0 : Nat) : Int))), w) = _
    rw [show i + 0 = me.length by omega]
  | q :: l, i, hd, hi => by
    have hl := ok.2.2.2.2.2.1
    obtain ⟨g, hd2, hi2⟩ := drop_c hd
    have m := h.mm hl g
    have b := ok_m ok g
    have ih := L_placeOf h ok hn hp l (i + 1) hd2 (by omega)
    have e : mpl n p (q :: l) = if q.1 = n ∧ q.2.1 = p then 0 else mpl n p l + 1 := rfl
    refine Z_87_2 h.1 ⟨_, h.mz, s32, s32, fun c => by omega, fun _ => ⟨fun c => by omega, fun _ => ⟨by omega, _, m.1, b.1, hn, fun d => ?_, fun d => ⟨by omega, _, m.2.1, b.2.1, hp, fun d2 => ?_, fun d2 => ?_⟩⟩⟩⟩
    · rw [e, if_neg (fun z => d z.1), show i + (mpl n p l + 1) = i + 1 + mpl n p l by omega]
      exact ih
    · rw [e, if_neg (fun z => d2 z.2), show i + (mpl n p l + 1) = i + 1 + mpl n p l by omega]
      exact ih
    · rw [e, if_pos ⟨d, d2⟩]
      rfl
theorem C_placeOf (h : cst E t ws me w) (ok : okS c E t ws me) {n p : Int} (hn : in32 n) (hp : in32 p) : xCall 87 [.ref 24, .int (jI n), .int (jI p)] w (some (.int (jI ((mpl n p me : Nat) : Int))), w) := by
  have L := L_placeOf h ok hn hp me 0 rfl (by omega)
  rw [Nat.zero_add] at L
  exact Z_87 h.1 L
theorem L_memoOf (h : mst E t ws me w) (ok : okS c E t ws me) {n p : Int} (hn : in32 n) (hp : in32 p) : ∀ (l : memT) (i : Nat), me.drop i = l → i ≤ me.length →
    xGo 230 2 [some (.ref 39), some (.int (jI n)), some (.int (jI p)), some (.int (jI i))] [] w (some (.int (jI (if mpl n p l < l.length then ((i + mpl n p l : Nat) : Int) else -1))), w)
  | [], i, hd, hi => by
    have hl := ok.2.2.2.2.2.1
    have := drop_n hd
    exact Z_230_2 h.1 ⟨_, h.mz, s32, s32, fun _ => rfl, fun c => by omega⟩
  | q :: l, i, hd, hi => by
    have hl := ok.2.2.2.2.2.1
    obtain ⟨g, hd2, hi2⟩ := drop_c hd
    have m := h.mm hl g
    have b := ok_m ok g
    have ih := L_memoOf h ok hn hp l (i + 1) hd2 (by omega)
    have e : mpl n p (q :: l) = if q.1 = n ∧ q.2.1 = p then 0 else mpl n p l + 1 := rfl
    have ej : (i : Int) = i := rfl
    have x0 : (3 * (i : Int)).toNat = 3 * i := by omega
    have x1 : (3 * (i : Int) + 1).toNat = 3 * i + 1 := by omega
    refine Z_230_2 h.1 ⟨_, h.mz, s32, s32, fun c => by omega, fun _ => ⟨by omega, _, by rw [x0]; exact m.1, b.1, hn, fun d => ?_, fun d => ⟨by omega, _, by rw [x1]; exact m.2.1, b.2.1, hp, fun d2 => ?_, fun d2 => ?_⟩⟩⟩
    · rw [e, if_neg (c := _ ∧ _) (fun z => d z.1), show i + (mpl n p l + 1) = i + 1 + mpl n p l by omega]
      simp only [List.length_cons, Nat.add_lt_add_iff_right]
      exact ih
    · rw [e, if_neg (c := _ ∧ _) (fun z => d2 z.2), show i + (mpl n p l + 1) = i + 1 + mpl n p l by omega]
      simp only [List.length_cons, Nat.add_lt_add_iff_right]
      exact ih
    · rw [e, if_pos (c := _ ∧ _) ⟨d, d2⟩, if_pos (by simp)]
      rfl
theorem C_memoOf (h : mst E t ws me w) (ok : okS c E t ws me) {n p : Int} (hn : in32 n) (hp : in32 p) : xCall 230 [.ref 39, .int (jI n), .int (jI p)] w (some (.int (jI (if mpl n p me < me.length then ((mpl n p me : Nat) : Int) else -1))), w) := by
  have L := L_memoOf h ok hn hp me 0 rfl (by omega)
  rw [Nat.zero_add] at L
  exact Z_230 h.1 L
/-- the three rows of the class's memo at a place -/
theorem mem3 (hC : CS w) {i : Nat} (hi : i < 20) (n p v : Int) : rI (pI (pI (pI w 25 i (jI n)) 26 i (jI p)) 27 i (jI v)) 25 i n ∧ rI (pI (pI (pI w 25 i (jI n)) 26 i (jI p)) 27 i (jI v)) 26 i p ∧ rI (pI (pI (pI w 25 i (jI n)) 26 i (jI p)) 27 i (jI v)) 27 i v ∧ xsame [25, 26, 27] w (pI (pI (pI w 25 i (jI n)) 26 i (jI p)) 27 i (jI v)) ∧ ∀ j a b d, j ≠ i → rI w 25 j a → rI w 26 j b → rI w 27 j d → rI (pI (pI (pI w 25 i (jI n)) 26 i (jI p)) 27 i (jI v)) 25 j a ∧ rI (pI (pI (pI w 25 i (jI n)) 26 i (jI p)) 27 i (jI v)) 26 j b ∧ rI (pI (pI (pI w 25 i (jI n)) 26 i (jI p)) 27 i (jI v)) 27 j d := by
  have s1 : xsame [25] w (pI w 25 i (jI n)) := sm_pI (by decide)
  have s2 : xsame [26] (pI w 25 i (jI n)) (pI (pI w 25 i (jI n)) 26 i (jI p)) := sm_pI (by decide)
  have s3 : xsame [27] (pI (pI w 25 i (jI n)) 26 i (jI p)) (pI (pI (pI w 25 i (jI n)) 26 i (jI p)) 27 i (jI v)) := sm_pI (by decide)
  have C1 : CS (pI w 25 i (jI n)) := hC.putI
  have C2 : CS (pI (pI w 25 i (jI n)) 26 i (jI p)) := C1.putI
  refine ⟨(((kl_25 hC).has (by decide) hi).put.sm s2 (by decide)).sm s3 (by decide), ((kl_26 C1).has (by decide) hi).put.sm s3 (by decide), ((kl_27 C2).has (by decide) hi).put, ?_, fun j a b d hj h1 h2 h3 => ⟨?_, ?_, ?_⟩⟩
  · exact ((s1.mono (by decide)).trans (s2.mono (by decide))).trans (s3.mono (by decide))
  · exact ((h1.put hj).sm s2 (by decide)).sm s3 (by decide)
  · exact ((h2.sm s1 (by decide)).put hj).sm s3 (by decide)
  · exact ((h3.sm s1 (by decide)).sm s2 (by decide)).put hj
theorem C_dropEldest (hC : CS w) : ∃ w', xCall 88 [.ref 24] w (none, w') ∧ CS w' ∧ xsame [24, 25, 26, 27] w w' ∧ fI w' 24 7 3 19 ∧ ∀ j a b d, j < 19 → rI w 25 (j + 1) a → rI w 26 (j + 1) b → rI w 27 (j + 1) d → rI w' 25 j a ∧ rI w' 26 j b ∧ rI w' 27 j d := by
  obtain ⟨c, h24, h2⟩ := hC.2 24 (by decide)
  obtain ⟨x, rfl⟩ := h2
  obtain ⟨f, h25⟩ := kl_25 hC
  obtain ⟨g, h26⟩ := kl_26 hC
  obtain ⟨k, h27⟩ := kl_27 hC
  refine ⟨(((w.set 25 (aI 20 (va_cpy f f 1 0 19))).set 26 (aI 20 (va_cpy g g 1 0 19))).set 27 (aI 20 (va_cpy k k 1 0 19))).set 24 (.inr (7, [.ref 25, .ref 26, .ref 27, .int 19])), ?_, ?_, ?_, ?_, ?_⟩
  · refine E_88 (S_88_0 ⟨_, h24, _, rfl, _, _, h25, by decide, by decide, fun w10 e10 => ?_⟩)
    subst e10
    refine ⟨_, (set_ne (by decide)).trans h24, _, rfl, _, _, (set_ne (by decide)).trans h26, by decide, by decide, fun w20 e20 => ?_⟩
    subst e20
    refine ⟨_, (set_ne (by decide)).trans ((set_ne (by decide)).trans h24), _, rfl, _, _, (set_ne (by decide)).trans ((set_ne (by decide)).trans h27), by decide, by decide, fun w30 e30 => ?_⟩
    subst e30
    refine ⟨_, (set_ne (by decide)).trans ((set_ne (by decide)).trans ((set_ne (by decide)).trans h24)), by simp, fun w34 e34 => ?_⟩
    subst e34
    rfl
  · refine CS.set (CS.set (CS.set (CS.set hC ?_) ?_) ?_) ?_ <;> exact ⟨_, rfl⟩
  · exact (((xsame.set (by decide)).trans (xsame.set (by decide))).trans (xsame.set (by decide))).trans (xsame.set (by decide))
  · refine ⟨_, set_get (c := .inr (7, [.ref 25, .ref 26, .ref 27, .int x])) ?_, rfl⟩
    exact (set_ne (by decide)).trans ((set_ne (by decide)).trans ((set_ne (by decide)).trans h24))
  · intro j a b d hj h1 h2 h3
    have cp : ∀ (f : Nat → Int32) (j : Nat), j < 19 → va_cpy f f 1 0 19 j = f (j + 1) := by
      intro f j hj
      unfold va_cpy
      rw [if_pos (by omega)]
      congr 1
      omega
    refine ⟨rI_of (n := 20) (f := va_cpy f f 1 0 19) ?_ (by decide) (by omega) (by rw [cp f j hj]; exact h1.val h25), rI_of (n := 20) (f := va_cpy g g 1 0 19) ?_ (by decide) (by omega) (by rw [cp g j hj]; exact h2.val h26), rI_of (n := 20) (f := va_cpy k k 1 0 19) ?_ (by decide) (by omega) (by rw [cp k j hj]; exact h3.val h27)⟩
    · exact (set_ne (by decide)).trans ((set_ne (by decide)).trans ((set_ne (by decide)).trans (set_get h25)))
    · exact (set_ne (by decide)).trans ((set_ne (by decide)).trans (set_get (c := aI 20 g) ((set_ne (by decide)).trans h26)))
    · exact (set_ne (by decide)).trans (set_get (c := aI 20 k) ((set_ne (by decide)).trans ((set_ne (by decide)).trans h27)))
theorem C_remember (h : cst E t ws me w) (ok : okS c E t ws me) {n p v : Int} (hn : in32 n) (hp : in32 p) : ∃ w', xCall 86 [.ref 24, .int (jI n), .int (jI p), .int (jI v)] w (none, w') ∧ cst E t ws (memR me n p v) w' ∧ xsame [24, 25, 26, 27] w w' := by
  have hl := ok.2.2.2.2.2.1
  have ht := ok.2.2.1
  have hle := mpl_le n p me
  have hC := h.1
  by_cases hA : mpl n p me < me.length
  · obtain ⟨m1, m2, m3, ms, mo⟩ := mem3 hC (i := mpl n p me) (by omega) n p v
    refine ⟨_, Z_86 hC ⟨_, _, C_placeOf h ok hn hp, hC, s32, fun _ => ⟨_, h.mz, s32, fun _ => ⟨_, _, _, C_mfits hC (z := ((mpl n p me : Nat) : Int)) s32 s32 h.mz, hC, fun q => absurd (by omega) q, fun _ => ⟨by omega, fun w16 e16 _ w19 e19 _ w22 e22 _ => ?_⟩⟩, fun q => by omega⟩, fun q => by omega⟩, h.mem ht (ms.mono (by decide)) ?_ ?_ ?_, ms.mono (by decide)⟩
    · rw [e22, e19, e16, Int.toNat_natCast]
    · exact hC.putI.putI.putI
    · unfold memR
      rw [if_pos hA, List.length_set]
      exact h.mz.sm ms (by decide)
    · intro k q hq
      unfold memR at hq
      rw [if_pos hA, List.getElem?_set] at hq
      by_cases e : mpl n p me = k
      · subst e
        rw [if_pos rfl, if_pos hA] at hq
        have := Option.some.inj hq
        subst this
        exact ⟨m1, m2, m3⟩
      · rw [if_neg e] at hq
        have m := h.mm hl hq
        exact mo k _ _ _ (fun z => e z.symm) m.1 m.2.1 m.2.2
  · have hP : mpl n p me = me.length := by omega
    by_cases hB : me.length = 20
    · obtain ⟨w1, d1, dC, ds, dz, dm⟩ := C_dropEldest hC
      have C2 : CS (pF w1 24 3 (.int (jI (19 + 1)))) := ks_24_3 dC
      have z2 : fI (pF w1 24 3 (.int (jI (19 + 1)))) 24 7 3 (19 + 1) := (kf_24_3 dC).putI
      have s2 : xsame [24] w1 (pF w1 24 3 (.int (jI (19 + 1)))) := sm_pF (by decide)
      obtain ⟨m1, m2, m3, ms, mo⟩ := mem3 C2 (i := 19) (by decide) n p v
      have pl := C_placeOf h ok hn hp
      rw [hP, hB] at pl
      refine ⟨pI (pI (pI (pF w1 24 3 (.int (jI (19 + 1)))) 25 19 (jI n)) 26 19 (jI p)) 27 19 (jI v), Z_86 hC ⟨_, _, pl, hC, s32, fun q => absurd rfl q, fun _ => ⟨_, d1, dC, _, dz, s32, fun q => absurd rfl q, fun _ w63 e63 _ => ?_⟩⟩, h.mem ht ?_ ?_ ?_ ?_, ?_⟩
      · subst e63
        refine ⟨_, _, _, C_mfits C2 (z := 19) (x := 19 + 1) s32 s32 z2, C2, fun q => absurd (by omega) q, fun _ w71 e71 _ w74 e74 _ w77 e77 _ => ?_⟩
        rw [e77, e74, e71]
      · exact ds.trans ((s2.mono (by decide)).trans (ms.mono (by decide)))
      · exact C2.putI.putI.putI
      · unfold memR
        rw [if_neg hA, if_pos hB]
        have : (me.drop 1 ++ [(n, p, v)]).length = 20 := by simp [hB]
        rw [this]
        exact z2.sm ms (by decide)
      · intro k q hq
        unfold memR at hq
        rw [if_neg hA, if_pos hB] at hq
        by_cases hk : k < 19
        · rw [List.getElem?_append_left (by simp [hB]; exact hk), List.getElem?_drop, Nat.add_comm] at hq
          have m := h.mm hl hq
          have d := dm k _ _ _ hk m.1 m.2.1 m.2.2
          exact mo k _ _ _ (by omega) (d.1.sm s2 (by decide)) (d.2.1.sm s2 (by decide)) (d.2.2.sm s2 (by decide))
        · have hk2 : k < (me.drop 1 ++ [(n, p, v)]).length := (List.getElem?_eq_some_iff.mp hq).1
          have e : k = 19 := by
            simp [hB] at hk2
            omega
          subst e
          rw [List.getElem?_append_right (by simp [hB])] at hq
          simp [hB] at hq
          subst hq
          exact ⟨m1, m2, m3⟩
      · exact ds.trans ((s2.mono (by decide)).trans (ms.mono (by decide)))
    · have C2 : CS (pF w 24 3 (.int (jI ((me.length : Int) + 1)))) := ks_24_3 hC
      have z2 : fI (pF w 24 3 (.int (jI ((me.length : Int) + 1)))) 24 7 3 ((me.length : Int) + 1) := (kf_24_3 hC).putI
      have s2 : xsame [24] w (pF w 24 3 (.int (jI ((me.length : Int) + 1)))) := sm_pF (by decide)
      obtain ⟨m1, m2, m3, ms, mo⟩ := mem3 C2 (i := me.length) (by omega) n p v
      have pl := C_placeOf h ok hn hp
      rw [hP] at pl
      refine ⟨pI (pI (pI (pF w 24 3 (.int (jI ((me.length : Int) + 1)))) 25 me.length (jI n)) 26 me.length (jI p)) 27 me.length (jI v), Z_86 hC ⟨_, _, pl, hC, s32, fun _ => ⟨_, h.mz, s32, fun q => absurd rfl q, fun _ w25 e25 _ => ?_⟩, fun q => by omega⟩, h.mem ht ?_ ?_ ?_ ?_, ?_⟩
      · subst e25
        refine ⟨_, _, _, C_mfits C2 (z := (me.length : Int)) (x := (me.length : Int) + 1) s32 s32 z2, C2, fun q => absurd (by omega) q, fun _ => ⟨by omega, fun w71 e71 _ w74 e74 _ w77 e77 _ => ?_⟩⟩
        rw [e77, e74, e71, Int.toNat_natCast]
      · exact (s2.mono (by decide)).trans (ms.mono (by decide))
      · exact C2.putI.putI.putI
      · unfold memR
        rw [if_neg hA, if_neg hB]
        have : (me ++ [(n, p, v)]).length = me.length + 1 := by simp
        rw [this]
        exact z2.sm ms (by decide)
      · intro k q hq
        unfold memR at hq
        rw [if_neg hA, if_neg hB] at hq
        by_cases hk : k < me.length
        · rw [List.getElem?_append_left hk] at hq
          have m := h.mm hl hq
          exact mo k _ _ _ (by omega) (m.1.sm s2 (by decide)) (m.2.1.sm s2 (by decide)) (m.2.2.sm s2 (by decide))
        · have hk2 : k < (me ++ [(n, p, v)]).length := (List.getElem?_eq_some_iff.mp hq).1
          have e : k = me.length := by
            simp at hk2
            omega
          subst e
          rw [List.getElem?_append_right (by omega)] at hq
          simp at hq
          subst hq
          exact ⟨m1, m2, m3⟩
      · exact (s2.mono (by decide)).trans (ms.mono (by decide))
end MEMO
