/-! WHAT THE STATEMENT'S WORDS SAY OF THE TABLES -/
def xwords (own : String) (ix : Nat) (q : Nat × Nat × Nat × Int) : List Cond := match q with
  | (0, a, 0, _) => [.methodLink own ix (xy a), .instanceMethod (xy a), .selects (xy a).cls (xy a) (xy a), .initialized (xy a).cls]
  | (0, a, 1, _) => [.methodLink own ix (xy a), .static (xy a), .initialized (xy a).cls]
  | (0, a, 2, _) => [.methodLink own ix (xy a), .instanceMethod (xy a), .initialized (xy a).cls]
  | (1, a, 1, _) => [.methodLinkNest own ix (xy a) "BernoulliWays", .static (xy a), .initialized (xy a).cls]
  | (1, a, 2, _) => [.methodLinkNest own ix (xy a) "BernoulliWays", .instanceMethod (xy a), .initialized (xy a).cls]
  | (2, _, _, _) => [.methodLink own ix objectInit, .instanceMethod objectInit, .code objectInit ⟨#[0xb1]⟩ 1 none]
  | (3, _, _, _) => [.methodLink own ix arraycopyName, .native arraycopyName, .static arraycopyName, .initialized "java/lang/System"]
  | (4, a, b, _) => let f := (xfs.getD a []).getD b ("", "", "", false); [.fieldLink own ix f.1 f.2.1 f.2.2.1]
  | (6, _, _, _) => [.fieldLink own ix "BernoulliWays" "PRIMES" "[I"]
  | (7, _, _, _) => [.fieldLinkNest own ix "BernoulliWays" "PRIMES" "[I" "BernoulliWays"]
  | (8, a, _, _) => let C := xcn.getD a ""; [.classLink own ix C, .instantiable C (xfs.getD a []).length, .initialized C]
  | (9, _, _, v) => [.constant own ix (Int32.ofInt v)]
  | (10, _, _, v) => [.constantLong own ix (Int64.ofInt v)]
  | _ => []
def xchkS (c : Nat) : Bool := (xss.getD c []).length == (xps.getD c []).length && ((xss.getD c []).zip (xps.getD c [])).all fun q => decide (q.2.map (fun j => lw_tbl[j]?) = (xwords (xcn.getD c "") q.1.1 q.1.2).map some)
theorem x_s0 : xchkS 0 = true := by decide +kernel
theorem x_s1 : xchkS 1 = true := by decide +kernel
theorem x_s2 : xchkS 2 = true := by decide +kernel
theorem x_s3 : xchkS 3 = true := by decide +kernel
theorem x_s4 : xchkS 4 = true := by decide +kernel
theorem x_s5 : xchkS 5 = true := by decide +kernel
theorem x_s6 : xchkS 6 = true := by decide +kernel
theorem x_s7 : xchkS 7 = true := by decide +kernel
theorem x_s8 : xchkS 8 = true := by decide +kernel
theorem x_s9 : xchkS 9 = true := by decide +kernel
theorem x_s10 : xchkS 10 = true := by decide +kernel
theorem x_s11 : xchkS 11 = true := by decide +kernel
theorem x_s12 : xchkS 12 = true := by decide +kernel
theorem x_s13 : xchkS 13 = true := by decide +kernel
theorem x_s14 : xchkS 14 = true := by decide +kernel
/-- the words that a callee may take over from its caller -/
def xtbl : List Cond := lw_tbl.filter goodWord
theorem xtbl_of {w : Cond} {j : Nat} (h : lw_tbl[j]? = some w) (hg : goodWord w = true) : w ∈ xtbl := List.mem_filter.mpr ⟨List.mem_of_getElem? h, hg⟩
/-- of each method: its code is among the words; its own class; its parameters -/
def xcodeW (y : MethodName) (m : Nat) (r : Option FieldType) (w : Option Cond) : Bool := match w with
  | some (.code y' _ m' r') => decide (y' = y) && decide (m' = m) && decide (r' = r)
  | _ => false
def xcodeB (w : Option Cond) : ByteArray := match w with
  | some (.code _ b _ _) => b
  | _ => ⟨#[]⟩
def xchkM (k : Nat) : Bool := xcodeW (xy k) (xml k) (xret k) lw_tbl[xws.getD k 0]? && decide ((xy k).cls = xcn.getD (xown k) "") && plainFor (xy k) && decide ((xy k).cls ≠ "java/lang/invoke/MethodHandle") && decide ((xy k).cls ≠ "java/lang/invoke/VarHandle") && decide ((parseMethodDescriptor (xy k).desc).map (fun d => d.parameters.length) = some (xna k))
theorem x_m0 : (List.range 100).all xchkM = true := by decide +kernel
theorem x_m1 : ((List.range 100).map (· + 100)).all xchkM = true := by decide +kernel
theorem x_m2 : ((List.range 107).map (· + 200)).all xchkM = true := by decide +kernel
theorem x_mlen : xms.length = 307 := by decide +kernel
set_option maxRecDepth 100000 in
theorem x_b0 : xb_0 = xw_0.map (fun j => xcodeB lw_tbl[j]?) := by rfl
set_option maxRecDepth 100000 in
theorem x_b1 : xb_1 = xw_1.map (fun j => xcodeB lw_tbl[j]?) := by rfl
set_option maxRecDepth 100000 in
theorem x_b2 : xb_2 = xw_2.map (fun j => xcodeB lw_tbl[j]?) := by rfl
set_option maxRecDepth 100000 in
theorem x_b3 : xb_3 = xw_3.map (fun j => xcodeB lw_tbl[j]?) := by rfl
set_option maxRecDepth 100000 in
theorem x_b4 : xb_4 = xw_4.map (fun j => xcodeB lw_tbl[j]?) := by rfl
set_option maxRecDepth 100000 in
theorem x_b5 : xb_5 = xw_5.map (fun j => xcodeB lw_tbl[j]?) := by rfl
set_option maxRecDepth 100000 in
theorem x_b6 : xb_6 = xw_6.map (fun j => xcodeB lw_tbl[j]?) := by rfl
set_option maxRecDepth 100000 in
theorem x_b7 : xb_7 = xw_7.map (fun j => xcodeB lw_tbl[j]?) := by rfl
/-- of each class that has objects: what its fields are -/
def xchkC (c : Nat) : Bool := decide (((xlp.getD c []).map fun j => lw_tbl[j]?) = (u_ws (xcn.getD c "") (fun k => (xfs.getD c []).getD k ("", "", "", false)) (xfs.getD c []).length).map some) && decide ((xfs.getD c []).map (fun f => parseFieldDescriptor f.2.2.1) = (xts.getD c []).map some) && decide ((xts.getD c []).map defaultValue = xvs.getD c []) && ((List.range (xfs.getD c []).length).all fun a => (List.range (xfs.getD c []).length).all fun b => a == b || decide (((xfs.getD c []).getD a ("", "", "", false)).2.1 ≠ ((xfs.getD c []).getD b ("", "", "", false)).2.1)) && ((xts.getD c []).all fun t => match t with | .int => true | .long => true | .array _ => true | .object _ => true | _ => false)
theorem x_c : (List.range 15).all xchkC = true := by decide +kernel
