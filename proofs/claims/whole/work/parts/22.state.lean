/-! THE STATE: entries E, how far they are laid (t), their ways (ws), the memo (me) -/
abbrev eT : Type := Nat → Int × Int × Int
abbrev memT : Type := List (Int × Int × Int)
/-- BY A WAY modulo p: the residue of the right entry n -/
def bwS (p n : Nat) : Nat := if n = 0 then 1 else if n = 1 then (p - 1) / 2 else if n % 2 = 1 then 0 else psum n p % (p * p) / p
/-- the irregular pairs of a prime -/
def prOf (p : Nat) : List (Nat × Nat) := (((List.range p).filter (fun k => 2 ≤ k ∧ k % 2 = 0 ∧ k + 3 ≤ p)).filter (fun k => bwS p k == 0)).map (fun k => (p, k))
/-- the irregular pairs of the first s primes of 3 to 199 -/
def prsS (s : Nat) : List (Nat × Nat) := (prN.take s).flatMap prOf
def cT (w : xW) (t : Int) : Prop := w[0]? = some (cMain (jI t))
def cC (w : xW) : Prop := ∃ f, w[2]? = some (aL 1764 f) ∧ ∀ n k, n < 42 → k < 42 → f (n * 42 + k) = jL (cb n k)
def tab3 (w : xW) (a : Nat) (p : Nat → Prop) (E : eT) : Prop := ∃ f g h, w[a]? = some (aL 39 f) ∧ w[a + 1]? = some (aL 39 g) ∧ w[a + 2]? = some (aL 39 h) ∧ ∀ n, p n → f n = jL (E n).1 ∧ g n = jL (E n).2.1 ∧ h n = jL (E n).2.2
def rE : eT := fun n => (rW n, rA n, rB n)
def cY (w : xW) (t : Int) (ws : Nat → Int) : Prop := ∃ f, w[22]? = some (aI 39 f) ∧ ∀ n : Nat, (n : Int) ≤ t → f n = jI (ws n)
def cM (w : xW) (me : memT) : Prop := ∃ f g h, w[24]? = some (.inr (7, [.ref 25, .ref 26, .ref 27, .int (jI me.length)])) ∧ w[25]? = some (aI 20 f) ∧ w[26]? = some (aI 20 g) ∧ w[27]? = some (aI 20 h) ∧ ∀ (k : Nat) (q : Int × Int × Int), me[k]? = some q → f k = jI q.1 ∧ g k = jI q.2.1 ∧ h k = jI q.2.2
def cB (w : xW) : Prop := ∃ fp fw f, w[28]? = some (.inr (8, [.ref 29, .ref 30, .int fp, .int fw])) ∧ w[29]? = some (aL 200 f) ∧ (fp = 0 ∨ ∃ p : Nat, p ∈ prN ∧ fp = jI p ∧ ∀ n : Nat, n + 2 ≤ p → f n = jL (bwS p n))
def cP (w : xW) : Prop := ∃ (s : Nat) (f g : Nat → Int32), s ≤ 45 ∧ w[31]? = some (.inr (9, [.ref 28, .ref 32, .ref 33, .int (jI (prsS s).length), .int (jI ((s : Int) + 1))])) ∧ w[32]? = some (aI 100 f) ∧ w[33]? = some (aI 100 g) ∧ ∀ (k : Nat) (q : Nat × Nat), (prsS s)[k]? = some q → f k = jI q.1 ∧ g k = jI q.2
/-- the class's part -/
def cst (E : eT) (t : Int) (ws : Nat → Int) (me : memT) (w : xW) : Prop := CS w ∧ cT w t ∧ cC w ∧ tab3 w 8 (fun n => n < 39) rE ∧ tab3 w 13 (fun n => (n : Int) ≤ t) E ∧ cY w t ws ∧ cM w me ∧ cB w ∧ cP w
def mT (w : xW) (t : Int) (me : memT) : Prop := ∃ th sw sr dr, w[39]? = some (mMain th (jI t) 46 (jI me.length) sw sr dr)
def row3 (w : xW) (a : Nat) (p : Nat → Prop) (E : eT) : Prop := ∃ f, w[a]? = some (aL 117 f) ∧ ∀ n, p n → f (3 * n) = jL (E n).1 ∧ f (3 * n + 1) = jL (E n).2.1 ∧ f (3 * n + 2) = jL (E n).2.2
def mY (w : xW) (t : Int) (ws : Nat → Int) : Prop := ∃ f, w[42]? = some (aI 39 f) ∧ ∀ n : Nat, (n : Int) ≤ t → f n = jI (ws n)
def mC (w : xW) : Prop := ∃ f, w[43]? = some (aL 1680 f) ∧ ∀ n k, n < 42 → k < 40 → f (40 * n + k) = jL (cb n k)
def mP (w : xW) : Prop := ∃ f, w[44]? = some (aI 46 f) ∧ ∀ j, j < 46 → f j = xpr j
def mM (w : xW) (me : memT) : Prop := ∃ f, w[47]? = some (aI 63 f) ∧ ∀ (k : Nat) (q : Int × Int × Int), me[k]? = some q → f (3 * k) = jI q.1 ∧ f (3 * k + 1) = jI q.2.1 ∧ f (3 * k + 2) = jI q.2.2
def m30 (w : xW) : Prop := ∃ f, w[53]? = some (aI 5 f) ∧ f 0 = 30 ∧ f 1 = -15 ∧ f 2 = 5 ∧ f 3 = 0 ∧ f 4 = -1
/-- the model's part -/
def mst (E : eT) (t : Int) (ws : Nat → Int) (me : memT) (w : xW) : Prop := CS w ∧ mT w t me ∧ row3 w 40 (fun n => n < 39) rE ∧ row3 w 41 (fun n => (n : Int) ≤ t) E ∧ mY w t ws ∧ mC w ∧ mP w ∧ mM w me ∧ m30 w
/-- the cells that hold the state -/
def cCells : List Nat := [0, 2, 8, 9, 10, 13, 14, 15, 22, 24, 25, 26, 27, 28, 29, 31, 32, 33]
def mCells : List Nat := [39, 40, 41, 42, 43, 44, 47, 53]
theorem cst.same {E : eT} {t : Int} {ws : Nat → Int} {me : memT} {w w' : xW} {S : List Nat} (h : cst E t ws me w) (hs : xsame S w w') (hd : ∀ i ∈ cCells, i ∉ S) (hC : CS w') : cst E t ws me w' := by
  obtain ⟨-, h1, ⟨f2, h2, k2⟩, ⟨f8, g8, h8, a8, b8, c8, k8⟩, ⟨f13, g13, h13, a13, b13, c13, k13⟩, ⟨f22, h22, k22⟩, ⟨f24, g24, h24, a24, b24, c24, d24, k24⟩, ⟨fp, fw, f28, a28, b28, k28⟩, ⟨s, f31, g31, hs31, a31, b31, c31, k31⟩⟩ := h
  have G : ∀ i ∈ cCells, ∀ o, w[i]? = o → w'[i]? = o := fun i hi o e => hs.get (hd i hi) e
  exact ⟨hC, G 0 (by decide) _ h1, ⟨f2, G 2 (by decide) _ h2, k2⟩, ⟨f8, g8, h8, G 8 (by decide) _ a8, G 9 (by decide) _ b8, G 10 (by decide) _ c8, k8⟩, ⟨f13, g13, h13, G 13 (by decide) _ a13, G 14 (by decide) _ b13, G 15 (by decide) _ c13, k13⟩, ⟨f22, G 22 (by decide) _ h22, k22⟩, ⟨f24, g24, h24, G 24 (by decide) _ a24, G 25 (by decide) _ b24, G 26 (by decide) _ c24, G 27 (by decide) _ d24, k24⟩, ⟨fp, fw, f28, G 28 (by decide) _ a28, G 29 (by decide) _ b28, k28⟩, ⟨s, f31, g31, hs31, G 31 (by decide) _ a31, G 32 (by decide) _ b31, G 33 (by decide) _ c31, k31⟩⟩
theorem mst.same {E : eT} {t : Int} {ws : Nat → Int} {me : memT} {w w' : xW} {S : List Nat} (h : mst E t ws me w) (hs : xsame S w w') (hd : ∀ i ∈ mCells, i ∉ S) (hC : CS w') : mst E t ws me w' := by
  obtain ⟨-, ⟨th, sw, sr, dr, h39⟩, ⟨f40, h40, k40⟩, ⟨f41, h41, k41⟩, ⟨f42, h42, k42⟩, ⟨f43, h43, k43⟩, ⟨f44, h44, k44⟩, ⟨f47, h47, k47⟩, ⟨f53, h53, k53⟩⟩ := h
  have G : ∀ i ∈ mCells, ∀ o, w[i]? = o → w'[i]? = o := fun i hi o e => hs.get (hd i hi) e
  exact ⟨hC, ⟨th, sw, sr, dr, G 39 (by decide) _ h39⟩, ⟨f40, G 40 (by decide) _ h40, k40⟩, ⟨f41, G 41 (by decide) _ h41, k41⟩, ⟨f42, G 42 (by decide) _ h42, k42⟩, ⟨f43, G 43 (by decide) _ h43, k43⟩, ⟨f44, G 44 (by decide) _ h44, k44⟩, ⟨f47, G 47 (by decide) _ h47, k47⟩, ⟨f53, G 53 (by decide) _ h53, k53⟩⟩
/-- thrown = 0, as each method of the model begins -/
theorem mst.begin {E : eT} {t : Int} {ws : Nat → Int} {me : memT} {w : xW} (h : mst E t ws me w) : ∃ fs, w[39]? = some (.inr (12, fs)) ∧ 0 < fs.length ∧ mst E t ws me (w.set 39 (.inr (12, fs.set 0 (.int (0 : Int32))))) := by
  obtain ⟨hC, ⟨th, sw, sr, dr, h39⟩, hr⟩ := h
  refine ⟨_, h39, by simp, ?_⟩
  have hs : xsame [39] w (w.set 39 (mMain 0 (jI t) 46 (jI me.length) sw sr dr)) := xsame.set (by decide)
  have h2 : mst E t ws me (w.set 39 (mMain 0 (jI t) 46 (jI me.length) sw sr dr)) := by
    obtain ⟨⟨f40, h40, k40⟩, ⟨f41, h41, k41⟩, ⟨f42, h42, k42⟩, ⟨f43, h43, k43⟩, ⟨f44, h44, k44⟩, ⟨f47, h47, k47⟩, ⟨f53, h53, k53⟩⟩ := hr
    exact ⟨hC.set ⟨_, _, _, _, _, _, _, rfl⟩, ⟨0, sw, sr, dr, set_get h39⟩, ⟨f40, hs.get (by decide) h40, k40⟩, ⟨f41, hs.get (by decide) h41, k41⟩, ⟨f42, hs.get (by decide) h42, k42⟩, ⟨f43, hs.get (by decide) h43, k43⟩, ⟨f44, hs.get (by decide) h44, k44⟩, ⟨f47, hs.get (by decide) h47, k47⟩, ⟨f53, hs.get (by decide) h53, k53⟩⟩
  exact h2
