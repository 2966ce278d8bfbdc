/-! THE WORLD: which cell is what; laid by wip/whole/shape.py -/
def cMain (t : Int32) : xC := .inr (0, [.ref 1, .ref 3, .ref 4, .ref 7, .ref 12, .ref 17, .ref 22, .int t, .ref 23, .ref 24, .ref 28, .ref 31, .ref 34, .ref 36, .ref 37, .ref 38])
def mMain (th tp pm mm : Int32) (sw sr dr : Int64) : xC := .inr (12, [.int th, .ref 40, .ref 41, .ref 42, .int tp, .ref 43, .ref 44, .int pm, .long sw, .long sr, .ref 45, .ref 46, .ref 47, .int mm, .long dr, .ref 48, .ref 49, .ref 50, .ref 51, .ref 52, .ref 53, .ref 54, .ref 55, .ref 56, .ref 57, .ref 58, .ref 59, .ref 60, .ref 61, .ref 62, .ref 63, .ref 64, .ref 65, .ref 66])
def aL (n : Nat) (f : Nat → Int64) : xC := .inl (.inr (n, f))
def aI (n : Nat) (f : Nat → Int32) : xC := .inl (.inl (n, f))
def fr (x y z : Int64) : xC := .inr (5, [.long x, .long y, .long z])
def cshp (i : Nat) (c : xC) : Prop := match i with
  | 0 => ∃ t, c = cMain t
  | 1 => c = .inr (1, [.ref 2])
  | 2 => ∃ f, c = aL 1764 f
  | 3 => ∃ x y z, c = .inr (2, [.long x, .long y, .long z])
  | 4 => ∃ x, c = .inr (3, [.ref 5, .ref 6, .int x])
  | 5 => ∃ f, c = aL 39 f
  | 6 => ∃ f, c = aL 39 f
  | 7 => c = .inr (4, [.ref 8, .ref 9, .ref 10, .ref 11])
  | 8 => ∃ f, c = aL 39 f
  | 9 => ∃ f, c = aL 39 f
  | 10 => ∃ f, c = aL 39 f
  | 11 => ∃ x y z, c = fr x y z
  | 12 => c = .inr (4, [.ref 13, .ref 14, .ref 15, .ref 16])
  | 13 => ∃ f, c = aL 39 f
  | 14 => ∃ f, c = aL 39 f
  | 15 => ∃ f, c = aL 39 f
  | 16 => ∃ x y z, c = fr x y z
  | 17 => c = .inr (4, [.ref 18, .ref 19, .ref 20, .ref 21])
  | 18 => ∃ f, c = aL 39 f
  | 19 => ∃ f, c = aL 39 f
  | 20 => ∃ f, c = aL 39 f
  | 21 => ∃ x y z, c = fr x y z
  | 22 => ∃ f, c = aI 39 f
  | 23 => c = .inr (6, [.ref 12, .ref 1, .ref 3])
  | 24 => ∃ x, c = .inr (7, [.ref 25, .ref 26, .ref 27, .int x])
  | 25 => ∃ f, c = aI 20 f
  | 26 => ∃ f, c = aI 20 f
  | 27 => ∃ f, c = aI 20 f
  | 28 => ∃ x y, c = .inr (8, [.ref 29, .ref 30, .int x, .int y])
  | 29 => ∃ f, c = aL 200 f
  | 30 => ∃ f, c = aL 200 f
  | 31 => ∃ x y, c = .inr (9, [.ref 28, .ref 32, .ref 33, .int x, .int y])
  | 32 => ∃ f, c = aI 100 f
  | 33 => ∃ f, c = aI 100 f
  | 34 => ∃ x, c = .inr (10, [.ref 35, .int x])
  | 35 => ∃ f, c = aL 28 f
  | 36 => ∃ x y z, c = fr x y z
  | 37 => ∃ f, c = aL 40 f
  | 38 => ∃ f, c = aL 40 f
  | 39 => ∃ th tp pm mm sw sr dr, c = mMain th tp pm mm sw sr dr
  | 40 => ∃ f, c = aL 117 f
  | 41 => ∃ f, c = aL 117 f
  | 42 => ∃ f, c = aI 39 f
  | 43 => ∃ f, c = aL 1680 f
  | 44 => ∃ f, c = aI 46 f
  | 45 => ∃ f, c = aL 40 f
  | 46 => ∃ f, c = aL 40 f
  | 47 => ∃ f, c = aI 63 f
  | 48 => ∃ f, c = aL 117 f
  | 49 => ∃ f, c = aI 200 f
  | 50 => ∃ f, c = aI 200 f
  | 51 => ∃ f, c = aI 200 f
  | 52 => ∃ f, c = aI 200 f
  | 53 => ∃ f, c = aI 5 f
  | 54 => ∃ f, c = aL 27 f
  | 55 => ∃ f, c = aL 27 f
  | 56 => ∃ f, c = aL 32 f
  | 57 => ∃ f, c = aL 32 f
  | 58 => ∃ f, c = aL 26 f
  | 59 => ∃ f, c = aL 32 f
  | 60 => ∃ f, c = aL 9 f
  | 61 => ∃ f, c = aL 9 f
  | 62 => ∃ f, c = aL 3 f
  | 63 => ∃ f, c = aI 39 f
  | 64 => ∃ f, c = aL 32 f
  | 65 => ∃ f, c = aL 24 f
  | 66 => ∃ f, c = aL 24 f
  | 67 => ∃ f, c = aL 1 f
  | _ => True
def CS (w : xW) : Prop := w.length < xP ∧ ∀ i, i < 68 → ∃ c, w[i]? = some c ∧ cshp i c
theorem CS.set {w : xW} {i : Nat} {c : xC} (h : CS w) (hc : cshp i c) : CS (w.set i c) := by
  refine ⟨by rw [List.length_set]; exact h.1, fun j hj => ?_⟩
  obtain ⟨d, h1, h2⟩ := h.2 j hj
  rw [List.getElem?_set]
  by_cases e : i = j
  · subst e
    rw [if_pos rfl, if_pos (List.getElem?_eq_some_iff.mp h1).1]
    exact ⟨c, rfl, hc⟩
  · rw [if_neg e]
    exact ⟨d, h1, h2⟩
theorem CS.noP {w : xW} (h : CS w) : w[xP]? = none := List.getElem?_eq_none (Nat.le_of_lt h.1)
/-- all but some cells are as they were -/
def xsame (S : List Nat) (w w' : xW) : Prop := w'.length = w.length ∧ ∀ i, i ∉ S → w'[i]? = w[i]?
theorem xsame.rf {S : List Nat} {w : xW} : xsame S w w := ⟨rfl, fun _ _ => rfl⟩
theorem xsame.trans {S : List Nat} {w w1 w2 : xW} (h1 : xsame S w w1) (h2 : xsame S w1 w2) : xsame S w w2 := ⟨h2.1.trans h1.1, fun i hi => (h2.2 i hi).trans (h1.2 i hi)⟩
theorem xsame.set {S : List Nat} {w : xW} {i : Nat} {c : xC} (hi : i ∈ S) : xsame S w (w.set i c) := by
  refine ⟨by rw [List.length_set], fun j hj => ?_⟩
  rw [List.getElem?_set, if_neg (fun (e : i = j) => hj (by rw [← e]; exact hi))]
theorem xsame.mono {S S' : List Nat} {w w' : xW} (h : xsame S w w') (hs : ∀ i ∈ S, i ∈ S') : xsame S' w w' := ⟨h.1, fun i hi => h.2 i (fun q => hi (hs i q))⟩
theorem xsame.get {S : List Nat} {w w' : xW} {i : Nat} {o : Option xC} (h : xsame S w w') (hi : i ∉ S) (e : w[i]? = o) : w'[i]? = o := (h.2 i hi).trans e
theorem set_get {w : xW} {i : Nat} {c c' : xC} (h : w[i]? = some c) : (w.set i c')[i]? = some c' := x_gss h
theorem set_ne {w : xW} {i j : Nat} {c : xC} (h : i ≠ j) : (w.set i c)[j]? = w[j]? := by rw [List.getElem?_set, if_neg h]

/-- the right entries: whole, above, below -/
def rWl : List Int := [1, -1, 0, 0, -1, 0, 0, 0, -1, 0, 0, 0, -1, 0, 1, 0, -8, 0, 54, 0, -530, 0, 6192, 0, -86581, 0, 1425517, 0, -27298232, 0, 601580873, 0, -15116315768, 0, 429614643061, 0, -13711655205089, 0, 488332318973593]
def rAl : List Int := [0, 1, 1, 0, 29, 0, 1, 0, 29, 0, 5, 0, 2039, 0, 1, 0, 463, 0, 775, 0, 289, 0, 17, 0, 2039, 0, 1, 0, 811, 0, 12899, 0, 463, 0, 1, 0, 1280537, 0, 1]
def rBl : List Int := [1, 2, 6, 1, 30, 1, 42, 1, 30, 1, 66, 1, 2730, 1, 6, 1, 510, 1, 798, 1, 330, 1, 138, 1, 2730, 1, 6, 1, 870, 1, 14322, 1, 510, 1, 6, 1, 1919190, 1, 6]
def rW (n : Nat) : Int := rWl.getD n 0
def rA (n : Nat) : Int := rAl.getD n 0
def rB (n : Nat) : Int := rBl.getD n 1
/-- in how many ways k of n are chosen -/
def cb : Nat → Nat → Nat
  | _, 0 => 1
  | 0, _ + 1 => 0
  | n + 1, k + 1 => cb n k + cb n (k + 1)
