/-! THE STATE BY PREDICATES -/
theorem rL_of {w : xW} {a n i : Nat} {f : Nat → Int64} {z : Int} (h : w[a]? = some (aL n f)) (hn : n ≤ 1000000) (hi : i < n) (hv : f i = jL z) : rL w a i z := ⟨n, f, h, hn, hi, hv⟩
theorem rI_of {w : xW} {a n i : Nat} {f : Nat → Int32} {z : Int} (h : w[a]? = some (aI n f)) (hn : n ≤ 1000000) (hi : i < n) (hv : f i = jI z) : rI w a i z := ⟨n, f, h, hn, hi, hv⟩
theorem rL.val {w : xW} {a n i : Nat} {f : Nat → Int64} {z : Int} (h : rL w a i z) (hw : w[a]? = some (aL n f)) : f i = jL z := by
  obtain ⟨m, g, h1, h2, h3, h4⟩ := h
  rw [hw] at h1
  have e := aL_inj (Option.some.inj h1)
  rw [e.2]
  exact h4
theorem rI.val {w : xW} {a n i : Nat} {f : Nat → Int32} {z : Int} (h : rI w a i z) (hw : w[a]? = some (aI n f)) : f i = jI z := by
  obtain ⟨m, g, h1, h2, h3, h4⟩ := h
  rw [hw] at h1
  have e := aI_inj (Option.some.inj h1)
  rw [e.2]
  exact h4
section ST2
variable {c : Nat} {E : eT} {t : Int} {ws : Nat → Int} {me : memT} {w : xW}
/-! the class -/
theorem cst.top (h : cst E t ws me w) : fI w 0 0 7 t := ⟨_, h.2.1, rfl⟩
theorem cst.cb (h : cst E t ws me w) {n k : Nat} (hn : n < 42) (hk : k < 42) : rL w 2 (n * 42 + k) (cb n k) := by
  obtain ⟨-, -, ⟨f, h2, k2⟩, -⟩ := h
  exact rL_of h2 (by decide) (by omega) (k2 n k hn hk)
theorem cst.rt (h : cst E t ws me w) {n : Nat} (hn : n < 39) : rL w 8 n (rW n) ∧ rL w 9 n (rA n) ∧ rL w 10 n (rB n) := by
  obtain ⟨-, -, -, ⟨f, g, k, h1, h2, h3, hv⟩, -⟩ := h
  exact ⟨rL_of h1 (by decide) hn (hv n hn).1, rL_of h2 (by decide) hn (hv n hn).2.1, rL_of h3 (by decide) hn (hv n hn).2.2⟩
theorem cst.nw (h : cst E t ws me w) (ht : t ≤ 38) {n : Nat} (hn : (n : Int) ≤ t) : rL w 13 n (E n).1 ∧ rL w 14 n (E n).2.1 ∧ rL w 15 n (E n).2.2 := by
  obtain ⟨-, -, -, -, ⟨f, g, k, h1, h2, h3, hv⟩, -⟩ := h
  exact ⟨rL_of h1 (by decide) (by omega) (hv n hn).1, rL_of h2 (by decide) (by omega) (hv n hn).2.1, rL_of h3 (by decide) (by omega) (hv n hn).2.2⟩
theorem cst.wy (h : cst E t ws me w) (ht : t ≤ 38) {n : Nat} (hn : (n : Int) ≤ t) : rI w 22 n (ws n) := by
  obtain ⟨-, -, -, -, -, ⟨f, h1, hv⟩, -⟩ := h
  exact rI_of h1 (by decide) (by omega) (hv n hn)
theorem cst.mz (h : cst E t ws me w) : fI w 24 7 3 me.length := by
  obtain ⟨-, -, -, -, -, -, ⟨f, g, k, h0, h1, h2, h3, hv⟩, -⟩ := h
  exact ⟨_, h0, rfl⟩
theorem cst.mm (h : cst E t ws me w) (hl : me.length ≤ 20) {k : Nat} {q : Int × Int × Int} (hq : me[k]? = some q) : rI w 25 k q.1 ∧ rI w 26 k q.2.1 ∧ rI w 27 k q.2.2 := by
  obtain ⟨-, -, -, -, -, -, ⟨f, g, g', h0, h1, h2, h3, hv⟩, -⟩ := h
  have hk : k < me.length := (List.getElem?_eq_some_iff.mp hq).1
  exact ⟨rI_of h1 (by decide) (by omega) (hv k q hq).1, rI_of h2 (by decide) (by omega) (hv k q hq).2.1, rI_of h3 (by decide) (by omega) (hv k q hq).2.2⟩
/-- the state from its facts -/
theorem cst_of (hC : CS w) (ht : fI w 0 0 7 t) (hc : ∀ n k, n < 42 → k < 42 → rL w 2 (n * 42 + k) (cb n k)) (hr : ∀ n, n < 39 → rL w 8 n (rW n) ∧ rL w 9 n (rA n) ∧ rL w 10 n (rB n)) (hn : ∀ n : Nat, (n : Int) ≤ t → rL w 13 n (E n).1 ∧ rL w 14 n (E n).2.1 ∧ rL w 15 n (E n).2.2) (hw : ∀ n : Nat, (n : Int) ≤ t → rI w 22 n (ws n)) (hz : fI w 24 7 3 me.length) (hm : ∀ (k : Nat) (q : Int × Int × Int), me[k]? = some q → rI w 25 k q.1 ∧ rI w 26 k q.2.1 ∧ rI w 27 k q.2.2) (hB : cB w) (hP : cP w) : cst E t ws me w := by
  refine ⟨hC, ?_, ?_, ?_, ?_, ?_, ?_, hB, hP⟩
  · obtain ⟨c, h1, h2⟩ := hC.2 0 (by decide)
    obtain ⟨x, rfl⟩ := h2
    obtain ⟨fs, h3, h4⟩ := ht
    rw [h1] at h3
    have e := Option.some.inj h3
    have e := Sum.inr.inj e
    have e := congrArg Prod.snd e
    have e2 : some (Value.int x) = fs[7]? := by rw [← show _ = fs from e]; rfl
    rw [h4] at e2
    have e3 := Option.some.inj e2
    have e4 : x = jI t := by injection e3
    unfold cT
    rw [h1, e4]
  · obtain ⟨f, h1⟩ := kl_2 hC
    exact ⟨f, h1, fun n k q1 q2 => (hc n k q1 q2).val h1⟩
  · obtain ⟨f, h1⟩ := kl_8 hC
    obtain ⟨g, h2⟩ := kl_9 hC
    obtain ⟨k, h3⟩ := kl_10 hC
    exact ⟨f, g, k, h1, h2, h3, fun n q => ⟨(hr n q).1.val h1, (hr n q).2.1.val h2, (hr n q).2.2.val h3⟩⟩
  · obtain ⟨f, h1⟩ := kl_13 hC
    obtain ⟨g, h2⟩ := kl_14 hC
    obtain ⟨k, h3⟩ := kl_15 hC
    exact ⟨f, g, k, h1, h2, h3, fun n q => ⟨(hn n q).1.val h1, (hn n q).2.1.val h2, (hn n q).2.2.val h3⟩⟩
  · obtain ⟨f, h1⟩ := kl_22 hC
    exact ⟨f, h1, fun n q => (hw n q).val h1⟩
  · obtain ⟨c, h0, h2⟩ := hC.2 24 (by decide)
    obtain ⟨x, rfl⟩ := h2
    obtain ⟨fs, h3, h4⟩ := hz
    rw [h0] at h3
    have e := Option.some.inj h3
    have e := Sum.inr.inj e
    have e := congrArg Prod.snd e
    have e2 : some (Value.int x) = fs[3]? := by rw [← show _ = fs from e]; rfl
    rw [h4] at e2
    have e3 := Option.some.inj e2
    have e4 : x = jI me.length := by injection e3
    subst e4
    obtain ⟨f, h1⟩ := kl_25 hC
    obtain ⟨g, h2⟩ := kl_26 hC
    obtain ⟨k, h3⟩ := kl_27 hC
    exact ⟨f, g, k, h0, h1, h2, h3, fun n q hq => ⟨(hm n q hq).1.val h1, (hm n q hq).2.1.val h2, (hm n q hq).2.2.val h3⟩⟩
/-! the model -/
theorem mst.top (h : mst E t ws me w) : fI w 39 12 4 t := by
  obtain ⟨-, ⟨th, sw, sr, dr, h39⟩, -⟩ := h
  exact ⟨_, h39, rfl⟩
theorem mst.pm (h : mst E t ws me w) : fI w 39 12 7 46 := by
  obtain ⟨-, ⟨th, sw, sr, dr, h39⟩, -⟩ := h
  exact ⟨_, h39, rfl⟩
theorem mst.mz (h : mst E t ws me w) : fI w 39 12 13 me.length := by
  obtain ⟨-, ⟨th, sw, sr, dr, h39⟩, -⟩ := h
  exact ⟨_, h39, rfl⟩
theorem mst.rt (h : mst E t ws me w) {n : Nat} (hn : n < 39) : rL w 40 (3 * n) (rW n) ∧ rL w 40 (3 * n + 1) (rA n) ∧ rL w 40 (3 * n + 2) (rB n) := by
  obtain ⟨-, -, ⟨f, h1, hv⟩, -⟩ := h
  exact ⟨rL_of h1 (by decide) (by omega) (hv n hn).1, rL_of h1 (by decide) (by omega) (hv n hn).2.1, rL_of h1 (by decide) (by omega) (hv n hn).2.2⟩
theorem mst.nw (h : mst E t ws me w) (ht : t ≤ 38) {n : Nat} (hn : (n : Int) ≤ t) : rL w 41 (3 * n) (E n).1 ∧ rL w 41 (3 * n + 1) (E n).2.1 ∧ rL w 41 (3 * n + 2) (E n).2.2 := by
  obtain ⟨-, -, -, ⟨f, h1, hv⟩, -⟩ := h
  exact ⟨rL_of h1 (by decide) (by omega) (hv n hn).1, rL_of h1 (by decide) (by omega) (hv n hn).2.1, rL_of h1 (by decide) (by omega) (hv n hn).2.2⟩
theorem mst.wy (h : mst E t ws me w) (ht : t ≤ 38) {n : Nat} (hn : (n : Int) ≤ t) : rI w 42 n (ws n) := by
  obtain ⟨-, -, -, -, ⟨f, h1, hv⟩, -⟩ := h
  exact rI_of h1 (by decide) (by omega) (hv n hn)
theorem mst.cb (h : mst E t ws me w) {n k : Nat} (hn : n < 42) (hk : k < 40) : rL w 43 (40 * n + k) (cb n k) := by
  obtain ⟨-, -, -, -, -, ⟨f, h2, k2⟩, -⟩ := h
  exact rL_of h2 (by decide) (by omega) (k2 n k hn hk)
theorem mst.pr (h : mst E t ws me w) {j : Nat} (hj : j < 46) : rI w 44 j (prZ j) := by
  obtain ⟨-, -, -, -, -, -, ⟨f, h1, hv⟩, -⟩ := h
  exact rI_of h1 (by decide) hj (by rw [hv j hj, xpr_z j hj])
theorem mst.mm (h : mst E t ws me w) (hl : me.length ≤ 20) {k : Nat} {q : Int × Int × Int} (hq : me[k]? = some q) : rI w 47 (3 * k) q.1 ∧ rI w 47 (3 * k + 1) q.2.1 ∧ rI w 47 (3 * k + 2) q.2.2 := by
  obtain ⟨-, -, -, -, -, -, -, ⟨f, h1, hv⟩, -⟩ := h
  have hk : k < me.length := (List.getElem?_eq_some_iff.mp hq).1
  exact ⟨rI_of h1 (by decide) (by omega) (hv k q hq).1, rI_of h1 (by decide) (by omega) (hv k q hq).2.1, rI_of h1 (by decide) (by omega) (hv k q hq).2.2⟩
theorem mst.t30 (h : mst E t ws me w) : rI w 53 0 30 ∧ rI w 53 1 (-15) ∧ rI w 53 2 5 ∧ rI w 53 3 0 ∧ rI w 53 4 (-1) := by
  obtain ⟨-, -, -, -, -, -, -, -, ⟨f, h1, k0, k1, k2, k3, k4⟩⟩ := h
  exact ⟨rI_of h1 (by decide) (by decide) k0, rI_of h1 (by decide) (by decide) k1, rI_of h1 (by decide) (by decide) k2, rI_of h1 (by decide) (by decide) k3, rI_of h1 (by decide) (by decide) k4⟩
theorem mMain_set {th tp pm mm : Int32} {sw sr dr : Int64} (h : w[39]? = some (mMain th tp pm mm sw sr dr)) {j : Nat} {v : Value} : pF w 39 j v = w.set 39 (.inr (12, (match mMain th tp pm mm sw sr dr with | .inr (_, fs) => fs.set j v | _ => []))) := pF_of h
theorem mst_of (hC : CS w) (ht : fI w 39 12 4 t) (hpm : fI w 39 12 7 46) (hz : fI w 39 12 13 me.length) (hr : ∀ n, n < 39 → rL w 40 (3 * n) (rW n) ∧ rL w 40 (3 * n + 1) (rA n) ∧ rL w 40 (3 * n + 2) (rB n)) (hn : ∀ n : Nat, (n : Int) ≤ t → rL w 41 (3 * n) (E n).1 ∧ rL w 41 (3 * n + 1) (E n).2.1 ∧ rL w 41 (3 * n + 2) (E n).2.2) (hw : ∀ n : Nat, (n : Int) ≤ t → rI w 42 n (ws n)) (hc : ∀ n k, n < 42 → k < 40 → rL w 43 (40 * n + k) (cb n k)) (hp : ∀ j, j < 46 → rI w 44 j (prZ j)) (hm : ∀ (k : Nat) (q : Int × Int × Int), me[k]? = some q → rI w 47 (3 * k) q.1 ∧ rI w 47 (3 * k + 1) q.2.1 ∧ rI w 47 (3 * k + 2) q.2.2) (h30 : m30 w) : mst E t ws me w := by
  refine ⟨hC, ?_, ?_, ?_, ?_, ?_, ?_, ?_, h30⟩
  · obtain ⟨c, h1, h2⟩ := hC.2 39 (by decide)
    obtain ⟨th, tp, pm, mm, sw, sr, dr, rfl⟩ := h2
    have key : ∀ (j : Nat) (z : Int) (x : Int32), fI w 39 12 j z → (match mMain th tp pm mm sw sr dr with | .inr (_, fs) => fs[j]? | _ => none) = some (Value.int x) → x = jI z := by
      intro j z x ⟨fs, h3, h4⟩ h5
      rw [h1] at h3
      have e := Option.some.inj h3
      have e := Sum.inr.inj e
      have e := congrArg Prod.snd e
      have e2 : some (Value.int x) = fs[j]? := by rw [← show _ = fs from e, ← h5]; rfl
      rw [h4] at e2
      have e3 := Option.some.inj e2
      injection e3
    have k1 := key 4 t tp ht rfl
    have k2 := key 7 46 pm hpm rfl
    have k3 := key 13 me.length mm hz rfl
    refine ⟨th, sw, sr, dr, ?_⟩
    rw [h1, k1, k2, k3]
    rfl
  · obtain ⟨f, h1⟩ := kl_40 hC
    exact ⟨f, h1, fun n q => ⟨(hr n q).1.val h1, (hr n q).2.1.val h1, (hr n q).2.2.val h1⟩⟩
  · obtain ⟨f, h1⟩ := kl_41 hC
    exact ⟨f, h1, fun n q => ⟨(hn n q).1.val h1, (hn n q).2.1.val h1, (hn n q).2.2.val h1⟩⟩
  · obtain ⟨f, h1⟩ := kl_42 hC
    exact ⟨f, h1, fun n q => (hw n q).val h1⟩
  · obtain ⟨f, h1⟩ := kl_43 hC
    exact ⟨f, h1, fun n k q1 q2 => (hc n k q1 q2).val h1⟩
  · obtain ⟨f, h1⟩ := kl_44 hC
    exact ⟨f, h1, fun j q => by rw [xpr_z j q]; exact (hp j q).val h1⟩
  · obtain ⟨f, h1⟩ := kl_47 hC
    exact ⟨f, h1, fun n q hq => ⟨(hm n q hq).1.val h1, (hm n q hq).2.1.val h1, (hm n q hq).2.2.val h1⟩⟩
/-- other fields of the model -/
theorem mst.pu (h : mst E t ws me w) {j : Nat} {v : Value} (hj : j = 0 ∨ j = 8 ∨ j = 9 ∨ j = 14) (hC : CS (pF w 39 j v)) : mst E t ws me (pF w 39 j v) := by
  have hs : xsame [39] w (pF w 39 j v) := sm_pF (by decide)
  obtain ⟨-, ⟨th, sw, sr, dr, h39⟩, ⟨f40, h40, k40⟩, ⟨f41, h41, k41⟩, ⟨f42, h42, k42⟩, ⟨f43, h43, k43⟩, ⟨f44, h44, k44⟩, ⟨f47, h47, k47⟩, ⟨f53, h53, k53⟩⟩ := h
  have e1 : fI (pF w 39 j v) 39 12 4 t := fI.put ⟨_, h39, rfl⟩ (by omega)
  have e2 : fI (pF w 39 j v) 39 12 7 46 := fI.put ⟨_, h39, rfl⟩ (by omega)
  have e3 : fI (pF w 39 j v) 39 12 13 me.length := fI.put ⟨_, h39, rfl⟩ (by omega)
  refine ⟨hC, ?_, ⟨f40, hs.get (by decide) h40, k40⟩, ⟨f41, hs.get (by decide) h41, k41⟩, ⟨f42, hs.get (by decide) h42, k42⟩, ⟨f43, hs.get (by decide) h43, k43⟩, ⟨f44, hs.get (by decide) h44, k44⟩, ⟨f47, hs.get (by decide) h47, k47⟩, ⟨f53, hs.get (by decide) h53, k53⟩⟩
  rcases hj with rfl | rfl | rfl | rfl
  · obtain ⟨c, h1, h2⟩ := hC.2 39 (by decide)
    obtain ⟨th', tp', pm', mm', sw', sr', dr', rfl⟩ := h2
    refine ⟨th', sw', sr', dr', ?_⟩
    rw [mMain_set h39, set_get h39] at h1 ⊢
    have e := Sum.inr.inj (Option.some.inj h1)
    have e := congrArg Prod.snd e
    have q1 : some (Value.int (jI t)) = some (Value.int tp') := congrArg (fun l : List Value => l[4]?) e
    have q2 : some (Value.int 46) = some (Value.int pm') := congrArg (fun l : List Value => l[7]?) e
    have q3 : some (Value.int (jI me.length)) = some (Value.int mm') := congrArg (fun l : List Value => l[13]?) e
    injection q1 with q1
    injection q2 with q2
    injection q3 with q3
    injection q1 with q1
    injection q2 with q2
    injection q3 with q3
    rw [h1, q1, q2, q3]
  · obtain ⟨c, h1, h2⟩ := hC.2 39 (by decide)
    obtain ⟨th', tp', pm', mm', sw', sr', dr', rfl⟩ := h2
    refine ⟨th', sw', sr', dr', ?_⟩
    rw [mMain_set h39, set_get h39] at h1 ⊢
    have e := Sum.inr.inj (Option.some.inj h1)
    have e := congrArg Prod.snd e
    have q1 : some (Value.int (jI t)) = some (Value.int tp') := congrArg (fun l : List Value => l[4]?) e
    have q2 : some (Value.int 46) = some (Value.int pm') := congrArg (fun l : List Value => l[7]?) e
    have q3 : some (Value.int (jI me.length)) = some (Value.int mm') := congrArg (fun l : List Value => l[13]?) e
    injection q1 with q1
    injection q2 with q2
    injection q3 with q3
    injection q1 with q1
    injection q2 with q2
    injection q3 with q3
    rw [h1, q1, q2, q3]
  · obtain ⟨c, h1, h2⟩ := hC.2 39 (by decide)
    obtain ⟨th', tp', pm', mm', sw', sr', dr', rfl⟩ := h2
    refine ⟨th', sw', sr', dr', ?_⟩
    rw [mMain_set h39, set_get h39] at h1 ⊢
    have e := Sum.inr.inj (Option.some.inj h1)
    have e := congrArg Prod.snd e
    have q1 : some (Value.int (jI t)) = some (Value.int tp') := congrArg (fun l : List Value => l[4]?) e
    have q2 : some (Value.int 46) = some (Value.int pm') := congrArg (fun l : List Value => l[7]?) e
    have q3 : some (Value.int (jI me.length)) = some (Value.int mm') := congrArg (fun l : List Value => l[13]?) e
    injection q1 with q1
    injection q2 with q2
    injection q3 with q3
    injection q1 with q1
    injection q2 with q2
    injection q3 with q3
    rw [h1, q1, q2, q3]
  · obtain ⟨c, h1, h2⟩ := hC.2 39 (by decide)
    obtain ⟨th', tp', pm', mm', sw', sr', dr', rfl⟩ := h2
    refine ⟨th', sw', sr', dr', ?_⟩
    rw [mMain_set h39, set_get h39] at h1 ⊢
    have e := Sum.inr.inj (Option.some.inj h1)
    have e := congrArg Prod.snd e
    have q1 : some (Value.int (jI t)) = some (Value.int tp') := congrArg (fun l : List Value => l[4]?) e
    have q2 : some (Value.int 46) = some (Value.int pm') := congrArg (fun l : List Value => l[7]?) e
    have q3 : some (Value.int (jI me.length)) = some (Value.int mm') := congrArg (fun l : List Value => l[13]?) e
    injection q1 with q1
    injection q2 with q2
    injection q3 with q3
    injection q1 with q1
    injection q2 with q2
    injection q3 with q3
    rw [h1, q1, q2, q3]
theorem mst.p0 (h : mst E t ws me w) {v : Int32} : mst E t ws me (pF w 39 0 (.int v)) := h.pu (Or.inl rfl) (ks_39_0 h.1)
/-! entries as calls, by whole numbers -/
theorem N_whole (h : cst E t ws me w) (ht : t ≤ 38) {n : Int} (h0 : 0 ≤ n) (hn : n ≤ t) : xCall 29 [.ref 12, .int (jI n)] w (some (.long (jL (E n.toNat).1)), w) := by
  obtain ⟨m, rfl⟩ := Int.eq_ofNat_of_zero_le h0
  exact T_whole h.1.e12 h.2.2.2.2.1 (by omega) hn
theorem N_above (h : cst E t ws me w) (ht : t ≤ 38) {n : Int} (h0 : 0 ≤ n) (hn : n ≤ t) : xCall 30 [.ref 12, .int (jI n)] w (some (.long (jL (E n.toNat).2.1)), w) := by
  obtain ⟨m, rfl⟩ := Int.eq_ofNat_of_zero_le h0
  exact T_above h.1.e12 h.2.2.2.2.1 (by omega) hn
theorem N_below (h : cst E t ws me w) (ht : t ≤ 38) {n : Int} (h0 : 0 ≤ n) (hn : n ≤ t) : xCall 31 [.ref 12, .int (jI n)] w (some (.long (jL (E n.toNat).2.2)), w) := by
  obtain ⟨m, rfl⟩ := Int.eq_ofNat_of_zero_le h0
  exact T_below h.1.e12 h.2.2.2.2.1 (by omega) hn
theorem R_whole (h : cst E t ws me w) {n : Int} (h0 : 0 ≤ n) (hn : n ≤ 38) : xCall 29 [.ref 7, .int (jI n)] w (some (.long (jL (rW n.toNat))), w) := by
  obtain ⟨m, rfl⟩ := Int.eq_ofNat_of_zero_le h0
  exact T_whole (E := rE) h.1.e7 h.2.2.2.1 (by omega) (by show m < 39; omega)
theorem R_above (h : cst E t ws me w) {n : Int} (h0 : 0 ≤ n) (hn : n ≤ 38) : xCall 30 [.ref 7, .int (jI n)] w (some (.long (jL (rA n.toNat))), w) := by
  obtain ⟨m, rfl⟩ := Int.eq_ofNat_of_zero_le h0
  exact T_above (E := rE) h.1.e7 h.2.2.2.1 (by omega) (by show m < 39; omega)
theorem R_below (h : cst E t ws me w) {n : Int} (h0 : 0 ≤ n) (hn : n ≤ 38) : xCall 31 [.ref 7, .int (jI n)] w (some (.long (jL (rB n.toNat))), w) := by
  obtain ⟨m, rfl⟩ := Int.eq_ofNat_of_zero_le h0
  exact T_below (E := rE) h.1.e7 h.2.2.2.1 (by omega) (by show m < 39; omega)
end ST2
