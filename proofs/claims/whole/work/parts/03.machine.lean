/-! THE PURE MACHINE: what the bytecode of the tables' methods does, over a heap of pure cells; a reference is a cell's number. -/
/-- a cell: a row of ints, a row of longs, an object of a class (its number) with its fields -/
abbrev xC : Type := ((Nat × (Nat → Int32)) ⊕ (Nat × (Nat → Int64))) ⊕ (Nat × List Value)
abbrev xW : Type := List xC
/-- the static row of primes, by a number that no cell has -/
def xP : Nat := 1000000
def xprimes : List Int32 := [2, 3, 5, 7, 11, 13, 17, 19, 23, 29, 31, 37, 41, 43, 47, 53, 59, 61, 67, 71, 73, 79, 83, 89, 97, 101, 103, 107, 109, 113, 127, 131, 137, 139, 149, 151, 157, 163, 167, 173, 179, 181, 191, 193, 197, 199]
def xpr (j : Nat) : Int32 := xprimes.getD j 0
def xmi (k : Nat) : Nat × Nat × Nat × Nat × Nat × Option FieldType := xms.getD k (0, 0, 0, 0, 0, none)
def xown (k : Nat) : Nat := (xmi k).1
def xml (k : Nat) : Nat := (xmi k).2.1
def xna (k : Nat) : Nat := (xmi k).2.2.1
def xfr (k : Nat) : Nat := (xmi k).2.2.2.1
def xlo (k : Nat) : Nat := (xmi k).2.2.2.2.1
def xret (k : Nat) : Option FieldType := (xmi k).2.2.2.2.2
def xy (k : Nat) : MethodName := xns.getD k ⟨"", "", ""⟩
def xb (k : Nat) : ByteArray := xbs.getD k ⟨#[]⟩
def xcode (k pc : Nat) : Option (Instr × Nat) := match decode (xb k) pc with
  | .ok r => some r
  | _ => none
def xsite (k ix : Nat) : Option (Nat × Nat × Nat × Int) := (xss.getD (xown k) []).lookup ix
def xsz (c : xC) : Nat := match c with
  | .inl (.inl a) => a.1
  | .inl (.inr a) => a.1
  | .inr o => o.2.length
def xsl (w : xW) : Nat := (w.map xsz).sum
/-- locals: a place each, a long ahead of an empty one -/
def xent1 : List Value → List (Option Value)
  | [] => []
  | v :: vs => if v.category = 2 then some v :: none :: xent1 vs else some v :: xent1 vs
def xent (n : Nat) (vs : List Value) : List (Option Value) := xent1 vs ++ List.replicate (n - (xent1 vs).length) none
def xclr (l : List (Option Value)) (i : Nat) : List (Option Value) := match i with
  | 0 => l
  | j + 1 => match l[j]? with
    | some (some v) => if v.category = 2 then l.set j none else l
    | _ => l
def xst1 (l : List (Option Value)) (i : Nat) (v : Value) : List (Option Value) := (xclr l i).set i (some v)
def xst2 (l : List (Option Value)) (i : Nat) (v : Value) : List (Option Value) := ((xclr l i).set i (some v)).set (i + 1) none
def xtgt (pc : Nat) (off : Int) : Nat := ((pc : Int) + off).toNat
def xfits (ty : FieldType) (v : Value) : Bool := match ty, v with
  | .int, .int _ => true
  | .long, .long _ => true
  | .array _, .ref _ => true
  | .object _, .ref _ => true
  | _, _ => false
/-- what a machine at a place comes to: an answer and a heap -/
abbrev xA : Type := Option (Option Value × xW)
abbrev xK : Type := Nat → Nat → List (Option Value) → List Value → xW → xA
def xjump (F : xK) (k pc : Nat) (off : Int) (l : List (Option Value)) (st : List Value) (w : xW) : xA :=
  if 0 ≤ (pc : Int) + off then F k (xtgt pc off) l st w else none
def xbr (F : xK) (c : Bool) (k pc : Nat) (off : Int) (l : List (Option Value)) (st : List Value) (w : xW) : xA :=
  if 0 ≤ (pc : Int) + off then (if c = true then F k (xtgt pc off) l st w else F k (pc + 3) l st w) else none
def xaft (F : xK) (k pc : Nat) (l : List (Option Value)) (st : List Value) (r : xA) : xA := match r with
  | some (v, w') => F k (pc + 3) l (v.toList ++ st) w'
  | none => none
/-- a call of z: room, locals, the rest of the stack -/
def xgo (F : xK) (k pc : Nat) (l : List (Option Value)) (w : xW) (z : Nat) (as rest : List Value) : xA :=
  if xfr z + 1 ≤ xfr k ∧ 8 + (xml z + 11) + xlo z ≤ xlo k ∧ (rest.map fun v => v.category).sum ≤ 8 ∧ (xent1 as).length ≤ xml z ∧ z < xms.length then
    xaft F k pc l rest (F z 0 (xent (xml z) as) [] w)
  else none
def xinvV (F : xK) (k pc ix : Nat) (l : List (Option Value)) (st : List Value) (w : xW) : xA := match xsite k ix with
  | some (0, z, 0, _) => if xna z + 1 ≤ st.length then match (st.drop (xna z)) with
      | .ref b :: rest => match w[b]? with
        | some (.inr (ci, _)) => if ci = xown z then xgo F k pc l w z (.ref b :: (st.take (xna z)).reverse) rest else none
        | _ => none
      | _ => none
    else none
  | _ => none
def xinvS (F : xK) (k pc ix : Nat) (l : List (Option Value)) (st : List Value) (w : xW) : xA := match xsite k ix with
  | some (0, z, 1, _) => if xna z ≤ st.length then xgo F k pc l w z (st.take (xna z)).reverse (st.drop (xna z)) else none
  | some (1, z, 1, _) => if xna z ≤ st.length then xgo F k pc l w z (st.take (xna z)).reverse (st.drop (xna z)) else none
  | some (3, _, _, _) => match st with
    | .int n :: .int dp :: .ref d :: .int sp :: .ref a :: rest =>
      if n < 0 ∨ dp < 0 ∨ sp < 0 ∨ xfr k < 1 ∨ xlo k < (rest.map fun v => v.category).sum + 18 then none else match w[a]?, w[d]? with
      | some (.inl (.inl (n0, f))), some (.inl (.inl (n1, g))) => if sp.toNatClampNeg + n.toNatClampNeg ≤ n0 ∧ dp.toNatClampNeg + n.toNatClampNeg ≤ n1 then
          F k (pc + 3) l rest (w.set d (.inl (.inl (n1, va_cpy f g sp.toNatClampNeg dp.toNatClampNeg n.toNatClampNeg)))) else none
      | some (.inl (.inr (n0, f))), some (.inl (.inr (n1, g))) => if sp.toNatClampNeg + n.toNatClampNeg ≤ n0 ∧ dp.toNatClampNeg + n.toNatClampNeg ≤ n1 then
          F k (pc + 3) l rest (w.set d (.inl (.inr (n1, va_cpy f g sp.toNatClampNeg dp.toNatClampNeg n.toNatClampNeg)))) else none
      | _, _ => none
    | _ => none
  | _ => none
def xinvI (F : xK) (k pc ix : Nat) (l : List (Option Value)) (st : List Value) (w : xW) : xA := match xsite k ix with
  | some (0, z, 2, _) => if xna z + 1 ≤ st.length then match (st.drop (xna z)) with
      | .ref b :: rest => xgo F k pc l w z (.ref b :: (st.take (xna z)).reverse) rest
      | _ => none
    else none
  | some (1, z, 2, _) => if xna z + 1 ≤ st.length then match (st.drop (xna z)) with
      | .ref b :: rest => xgo F k pc l w z (.ref b :: (st.take (xna z)).reverse) rest
      | _ => none
    else none
  | some (2, _, _, _) => match st with
    | .ref _ :: rest => if 1 ≤ xfr k ∧ (rest.map fun v => v.category).sum + 12 ≤ xlo k then F k (pc + 3) l rest w else none
    | _ => none
  | _ => none
def xgetf (F : xK) (k pc ix : Nat) (l : List (Option Value)) (st : List Value) (w : xW) : xA := match xsite k ix, st with
  | some (4, ci, j, _), .ref a :: rest => match w[a]? with
    | some (.inr (c2, fs)) => if c2 = ci then match fs[j]? with
        | some v => F k (pc + 3) l (v :: rest) w
        | none => none
      else none
    | _ => none
  | _, _ => none
def xputf (F : xK) (k pc ix : Nat) (l : List (Option Value)) (st : List Value) (w : xW) : xA := match xsite k ix, st with
  | some (4, ci, j, _), v :: .ref a :: rest => match w[a]? with
    | some (.inr (c2, fs)) => if c2 = ci ∧ j < fs.length then match (xts.getD ci [])[j]?, (xfs.getD ci [])[j]? with
        | some ty, some fd => if xfits ty v = true ∧ (fd.2.2.2 = false ∨ (xy k).name = "<init>" ∧ fd.1 = (xy k).cls) then F k (pc + 3) l rest (w.set a (.inr (ci, fs.set j v))) else none
        | _, _ => none
      else none
    | _ => none
  | _, _ => none
def xald (F : xK) (k pc : Nat) (l : List (Option Value)) (st : List Value) (w : xW) : xA := match st with
  | .int i :: .ref a :: rest => match w[a]? with
    | some (.inl (.inl (n, f))) => if i < 0 ∨ n ≤ i.toNatClampNeg then none else F k (pc + 1) l (.int (f i.toNatClampNeg) :: rest) w
    | some _ => none
    | none => if a = xP then (if i < 0 ∨ 46 ≤ i.toNatClampNeg then none else F k (pc + 1) l (.int (xpr i.toNatClampNeg) :: rest) w) else none
  | _ => none
def xalen (F : xK) (k pc : Nat) (l : List (Option Value)) (st : List Value) (w : xW) : xA := match st with
  | .ref a :: rest => match w[a]? with
    | some (.inl (.inl (n, _))) => F k (pc + 1) l (.int (Int32.ofNat n) :: rest) w
    | some (.inl (.inr (n, _))) => F k (pc + 1) l (.int (Int32.ofNat n) :: rest) w
    | some _ => none
    | none => if a = xP then F k (pc + 1) l (.int 46 :: rest) w else none
  | _ => none
def xlald (F : xK) (k pc : Nat) (l : List (Option Value)) (st : List Value) (w : xW) : xA := match st with
  | .int i :: .ref a :: rest => match w[a]? with
    | some (.inl (.inr (n, f))) => if i < 0 ∨ n ≤ i.toNatClampNeg then none else F k (pc + 1) l (.long (f i.toNatClampNeg) :: rest) w
    | _ => none
  | _ => none
def xiast (F : xK) (k pc : Nat) (l : List (Option Value)) (st : List Value) (w : xW) : xA := match st with
  | .int x :: .int i :: .ref a :: rest => match w[a]? with
    | some (.inl (.inl (n, f))) => if i < 0 ∨ n ≤ i.toNatClampNeg then none else F k (pc + 1) l rest (w.set a (.inl (.inl (n, upd f i.toNatClampNeg x))))
    | _ => none
  | _ => none
def xlast (F : xK) (k pc : Nat) (l : List (Option Value)) (st : List Value) (w : xW) : xA := match st with
  | .long x :: .int i :: .ref a :: rest => match w[a]? with
    | some (.inl (.inr (n, f))) => if i < 0 ∨ n ≤ i.toNatClampNeg then none else F k (pc + 1) l rest (w.set a (.inl (.inr (n, vp_updL f i.toNatClampNeg x))))
    | _ => none
  | _ => none
def xnewa (F : xK) (k pc : Nat) (t : ArrayType) (l : List (Option Value)) (st : List Value) (w : xW) : xA := match st with
  | .int n :: rest => if n < 0 ∨ 1000000 < n.toNatClampNeg ∨ xP ≤ w.length + 1 then none else match t with
    | .int => F k (pc + 2) l (.ref w.length :: rest) (w ++ [.inl (.inl (n.toNatClampNeg, fun _ => 0))])
    | .long => F k (pc + 2) l (.ref w.length :: rest) (w ++ [.inl (.inr (n.toNatClampNeg, fun _ => 0))])
    | _ => none
  | _ => none
def xnew (F : xK) (k pc ix : Nat) (l : List (Option Value)) (st : List Value) (w : xW) : xA := match xsite k ix with
  | some (8, ci, _, _) => if xP ≤ w.length + 1 then none else F k (pc + 3) l (.ref w.length :: st) (w ++ [.inr (ci, xvs.getD ci [])])
  | _ => none
def xgets (F : xK) (k pc ix : Nat) (l : List (Option Value)) (st : List Value) (w : xW) : xA := match xsite k ix with
  | some (6, _, _, _) => F k (pc + 3) l (.ref xP :: st) w
  | some (7, _, _, _) => F k (pc + 3) l (.ref xP :: st) w
  | _ => none
def xild (F : xK) (k pc i len : Nat) (l : List (Option Value)) (st : List Value) (w : xW) : xA := match l[i]? with
  | some (some (.int x)) => F k (pc + len) l (.int x :: st) w
  | _ => none
def xlld (F : xK) (k pc i len : Nat) (l : List (Option Value)) (st : List Value) (w : xW) : xA := match l[i]? with
  | some (some (.long x)) => F k (pc + len) l (.long x :: st) w
  | _ => none
def xaldr (F : xK) (k pc i len : Nat) (l : List (Option Value)) (st : List Value) (w : xW) : xA := match l[i]? with
  | some (some (.ref x)) => F k (pc + len) l (.ref x :: st) w
  | _ => none
def xis (F : xK) (k pc i len : Nat) (l : List (Option Value)) (st : List Value) (w : xW) : xA := match st with
  | .int x :: rest => if i < xml k then F k (pc + len) (xst1 l i (.int x)) rest w else none
  | _ => none
def xas (F : xK) (k pc i len : Nat) (l : List (Option Value)) (st : List Value) (w : xW) : xA := match st with
  | .ref x :: rest => if i < xml k then F k (pc + len) (xst1 l i (.ref x)) rest w else none
  | _ => none
def xls (F : xK) (k pc i len : Nat) (l : List (Option Value)) (st : List Value) (w : xW) : xA := match st with
  | .long x :: rest => if i + 1 < xml k then F k (pc + len) (xst2 l i (.long x)) rest w else none
  | _ => none
def xinc (F : xK) (k pc i : Nat) (d : Int) (l : List (Option Value)) (st : List Value) (w : xW) : xA := match l[i]? with
  | some (some (.int x)) => if i < xml k then F k (pc + 3) (xst1 l i (.int (x + Int32.ofInt d))) st w else none
  | _ => none
def xi2 (F : xK) (f : Int32 → Int32 → Int32) (k pc : Nat) (l : List (Option Value)) (st : List Value) (w : xW) : xA := match st with
  | .int y :: .int x :: rest => F k (pc + 1) l (.int (f x y) :: rest) w
  | _ => none
def xl2 (F : xK) (f : Int64 → Int64 → Int64) (k pc : Nat) (l : List (Option Value)) (st : List Value) (w : xW) : xA := match st with
  | .long y :: .long x :: rest => F k (pc + 1) l (.long (f x y) :: rest) w
  | _ => none
def xid (F : xK) (f : Int32 → Int32 → Int32) (k pc : Nat) (l : List (Option Value)) (st : List Value) (w : xW) : xA := match st with
  | .int y :: .int x :: rest => if y = 0 then none else F k (pc + 1) l (.int (f x y) :: rest) w
  | _ => none
def xld (F : xK) (f : Int64 → Int64 → Int64) (k pc : Nat) (l : List (Option Value)) (st : List Value) (w : xW) : xA := match st with
  | .long y :: .long x :: rest => if y = 0 then none else F k (pc + 1) l (.long (f x y) :: rest) w
  | _ => none
def xlsh (F : xK) (f : Int64 → Int64 → Int64) (k pc : Nat) (l : List (Option Value)) (st : List Value) (w : xW) : xA := match st with
  | .int y :: .long x :: rest => F k (pc + 1) l (.long (f x (y.toInt64 &&& 63)) :: rest) w
  | _ => none
def xcmp1 (c : Jvm.ClassFile.Cond) (x : Int32) : Bool := match c with
  | .eq => decide (x = 0)
  | .ne => decide (¬ x = 0)
  | .lt => decide (x < 0)
  | .ge => decide (0 ≤ x)
  | .gt => decide (0 < x)
  | .le => decide (x ≤ 0)
def xcmp2 (c : Jvm.ClassFile.Cond) (x y : Int32) : Bool := match c with
  | .eq => decide (x = y)
  | .ne => decide (¬ x = y)
  | .lt => decide (x < y)
  | .ge => decide (y ≤ x)
  | .gt => decide (y < x)
  | .le => decide (x ≤ y)
/-- one instruction, and what the machine then comes to -/
def xins (F : xK) (k pc : Nat) (l : List (Option Value)) (st : List Value) (w : xW) (i : Instr) (len : Nat) : xA := match i with
  | .iconst n => if len = 1 then F k (pc + 1) l (.int (Int32.ofInt n) :: st) w else none
  | .bipush n => if len = 2 then F k (pc + 2) l (.int (Int8.ofInt n).toInt32 :: st) w else none
  | .sipush n => if len = 3 then F k (pc + 3) l (.int (Int16.ofInt n).toInt32 :: st) w else none
  | .lconst n => if len = 1 then F k (pc + 1) l (.long (Int64.ofNat (n : Nat)) :: st) w else none
  | .ldc ix => if len = 2 then match xsite k ix with
      | some (9, _, _, v) => F k (pc + 2) l (.int (Int32.ofInt v) :: st) w
      | _ => none
    else none
  | .ldc_w ix => if len = 3 then match xsite k ix with
      | some (9, _, _, v) => F k (pc + 3) l (.int (Int32.ofInt v) :: st) w
      | _ => none
    else none
  | .ldc2_w ix => if len = 3 then match xsite k ix with
      | some (10, _, _, v) => F k (pc + 3) l (.long (Int64.ofInt v) :: st) w
      | _ => none
    else none
  | .iload_n n => if len = 1 then xild F k pc n 1 l st w else none
  | .iload n => if len = 2 then xild F k pc n 2 l st w else none
  | .lload_n n => if len = 1 then xlld F k pc n 1 l st w else none
  | .lload n => if len = 2 then xlld F k pc n 2 l st w else none
  | .aload_n n => if len = 1 then xaldr F k pc n 1 l st w else none
  | .aload n => if len = 2 then xaldr F k pc n 2 l st w else none
  | .istore_n n => if len = 1 then xis F k pc n 1 l st w else none
  | .istore n => if len = 2 then xis F k pc n 2 l st w else none
  | .lstore_n n => if len = 1 then xls F k pc n 1 l st w else none
  | .lstore n => if len = 2 then xls F k pc n 2 l st w else none
  | .astore_n n => if len = 1 then xas F k pc n 1 l st w else none
  | .astore n => if len = 2 then xas F k pc n 2 l st w else none
  | .iinc n d => if len = 3 then xinc F k pc n d l st w else none
  | .iadd => if len = 1 then xi2 F (fun x y => x + y) k pc l st w else none
  | .isub => if len = 1 then xi2 F (fun x y => x - y) k pc l st w else none
  | .imul => if len = 1 then xi2 F (fun x y => x * y) k pc l st w else none
  | .iand => if len = 1 then xi2 F (fun x y => x &&& y) k pc l st w else none
  | .ior => if len = 1 then xi2 F (fun x y => x ||| y) k pc l st w else none
  | .ishr => if len = 1 then xi2 F (fun x y => x >>> (y &&& 31)) k pc l st w else none
  | .idiv => if len = 1 then xid F (fun x y => x / y) k pc l st w else none
  | .irem => if len = 1 then xid F (fun x y => x - x / y * y) k pc l st w else none
  | .ladd => if len = 1 then xl2 F (fun x y => x + y) k pc l st w else none
  | .lsub => if len = 1 then xl2 F (fun x y => x - y) k pc l st w else none
  | .lmul => if len = 1 then xl2 F (fun x y => x * y) k pc l st w else none
  | .land => if len = 1 then xl2 F (fun x y => x &&& y) k pc l st w else none
  | .lor => if len = 1 then xl2 F (fun x y => x ||| y) k pc l st w else none
  | .lxor => if len = 1 then xl2 F (fun x y => x ^^^ y) k pc l st w else none
  | .ldiv => if len = 1 then xld F (fun x y => x / y) k pc l st w else none
  | .lrem => if len = 1 then xld F (fun x y => x - x / y * y) k pc l st w else none
  | .lshl => if len = 1 then xlsh F (fun x y => x <<< y) k pc l st w else none
  | .lshr => if len = 1 then xlsh F (fun x y => x >>> y) k pc l st w else none
  | .ineg => if len = 1 then match st with
      | .int x :: rest => F k (pc + 1) l (.int (-x) :: rest) w
      | _ => none
    else none
  | .lneg => if len = 1 then match st with
      | .long x :: rest => F k (pc + 1) l (.long (-x) :: rest) w
      | _ => none
    else none
  | .i2l => if len = 1 then match st with
      | .int x :: rest => F k (pc + 1) l (.long x.toInt64 :: rest) w
      | _ => none
    else none
  | .l2i => if len = 1 then match st with
      | .long x :: rest => F k (pc + 1) l (.int x.toInt32 :: rest) w
      | _ => none
    else none
  | .lcmp => if len = 1 then match st with
      | .long y :: .long x :: rest => F k (pc + 1) l (.int (lg_cmp x y) :: rest) w
      | _ => none
    else none
  | .ifCond c off => if len = 3 then match st with
      | .int x :: rest => xbr F (xcmp1 c x) k pc off l rest w
      | _ => none
    else none
  | .if_icmp c off => if len = 3 then match st with
      | .int y :: .int x :: rest => xbr F (xcmp2 c x y) k pc off l rest w
      | _ => none
    else none
  | .goto off => if len = 3 then xjump F k pc off l st w else none
  | .tableswitch d lo hi offs => match st with
    | .int x :: rest => if x.toInt < lo ∨ hi < x.toInt then xjump F k pc d l rest w else match offs[(x.toInt - lo).toNat]? with
        | some off => xjump F k pc off l rest w
        | none => none
    | _ => none
  | .dup => if len = 1 then match st with
      | v :: rest => if v.category = 1 then F k (pc + 1) l (v :: v :: rest) w else none
      | _ => none
    else none
  | .dup2 => if len = 1 then match st with
      | v :: u :: rest => if v.category = 1 ∧ u.category = 1 then F k (pc + 1) l (v :: u :: v :: u :: rest) w else none
      | _ => none
    else none
  | .pop => if len = 1 then match st with
      | v :: rest => if v.category = 1 then F k (pc + 1) l rest w else none
      | _ => none
    else none
  | .getfield ix => if len = 3 then xgetf F k pc ix l st w else none
  | .putfield ix => if len = 3 then xputf F k pc ix l st w else none
  | .getstatic ix => if len = 3 then xgets F k pc ix l st w else none
  | .iaload => if len = 1 then xald F k pc l st w else none
  | .laload => if len = 1 then xlald F k pc l st w else none
  | .iastore => if len = 1 then xiast F k pc l st w else none
  | .lastore => if len = 1 then xlast F k pc l st w else none
  | .arraylength => if len = 1 then xalen F k pc l st w else none
  | .newarray t => if len = 2 then xnewa F k pc t l st w else none
  | .new ix => if len = 3 then xnew F k pc ix l st w else none
  | .invokevirtual ix => if len = 3 then xinvV F k pc ix l st w else none
  | .invokestatic ix => if len = 3 then xinvS F k pc ix l st w else none
  | .invokespecial ix => if len = 3 then xinvI F k pc ix l st w else none
  | .ireturn => if len = 1 then match st with
      | [.int v] => if xret k = some .int ∨ (xret k = some .boolean ∧ (v = 0 ∨ v = 1)) then some (some (.int v), w) else none
      | _ => none
    else none
  | .lreturn => if len = 1 then match st with
      | [.long v] => if xret k = some .long then some (some (.long v), w) else none
      | _ => none
    else none
  | .return_ => if len = 1 then match st with
      | [] => if xret k = none then some (none, w) else none
      | _ => none
    else none
  | _ => none
def xrun : Nat → xK
  | 0 => fun _ _ _ _ _ => none
  | n + 1 => fun k pc l st w => match xcode k pc with
    | some (i, len) => xins (xrun n) k pc l st w i len
    | none => none
/-- from this place the machine comes to this answer and this heap -/
def xGo (k pc : Nat) (l : List (Option Value)) (st : List Value) (w : xW) (r : Option Value × xW) : Prop := ∃ n, ∀ m, n ≤ m → xrun m k pc l st w = some r
/-- a call -/
def xCall (k : Nat) (as : List Value) (w : xW) (r : Option Value × xW) : Prop := xGo k 0 (xent (xml k) as) [] w r
