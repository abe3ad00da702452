/-! TREES, as lists of numbers (99: none) -/
def gN (l : List Nat) (i : Nat) : Nat := l.getD i 99
def leafN (e : Nat) : Nat := if e = 0 then 0 else 2 * e - 1
/-- the class's: parents, ones, others, the order of forks -/
abbrev CG : Type := List Nat × List Nat × List Nat × List Nat
def plc (nd : Nat) (l : List Nat) : Nat → Nat
  | 0 => 0
  | m + 1 => if gN l m = nd then m + 1 else plc nd l m
def insP (nd f : Nat) (l : List Nat) : List Nat := l.take (plc nd l l.length) ++ f :: l.drop (plc nd l l.length)
def graftP (g : CG) (e nd : Nat) : CG :=
  (((g.1.set (2 * e) (gN g.1 nd)).set nd (2 * e)).set (leafN e) (2 * e),
   (if gN g.1 nd = 99 then g.2.1.set (2 * e) nd else if gN (g.2.1.set (2 * e) nd) (gN g.1 nd) = nd then (g.2.1.set (2 * e) nd).set (gN g.1 nd) (2 * e) else g.2.1.set (2 * e) nd),
   (if gN g.1 nd = 99 then g.2.2.1.set (2 * e) (leafN e) else if gN (g.2.1.set (2 * e) nd) (gN g.1 nd) = nd then g.2.2.1.set (2 * e) (leafN e) else (g.2.2.1.set (2 * e) (leafN e)).set (gN g.1 nd) (2 * e)),
   insP nd (2 * e) g.2.2.2)
def bldP : Nat → Nat → Nat → CG → CG
  | 0, _, _, g => g
  | k + 1, j, r, g => bldP k (j + 1) (r / (2 * j - 1)) (graftP g j (r % (2 * j - 1)))
def n11 : List Nat := [99, 99, 99, 99, 99, 99, 99, 99, 99, 99, 99]
def cTree (e t : Nat) : CG := bldP (e - 1) 1 t (n11, n11, n11, [])
/-- the reference's: below, left, right, top -/
abbrev MG : Type := List Nat × List Nat × List Nat × Nat
def putP (g : MG) (en fo nd : Nat) : MG :=
  (((g.1.set fo (gN g.1 nd)).set nd fo).set en fo,
   (if gN g.1 nd = 99 then g.2.1.set fo nd else if gN (g.2.1.set fo nd) (gN g.1 nd) = nd then (g.2.1.set fo nd).set (gN g.1 nd) fo else g.2.1.set fo nd),
   (if gN g.1 nd = 99 then g.2.2.1.set fo en else if gN (g.2.1.set fo nd) (gN g.1 nd) = nd then g.2.2.1.set fo en else (g.2.2.1.set fo en).set (gN g.1 nd) fo),
   (if gN g.1 nd = 99 then fo else g.2.2.2))
def layP : Nat → Nat → Nat → MG → MG
  | 0, _, _, g => g
  | k + 1, j, r, g => layP k (j + 1) (r / (2 * j - 1)) (putP g j (5 + j) (if r % (2 * j - 1) < j then r % (2 * j - 1) else 6 + r % (2 * j - 1) - j))
def mTree (e t : Nat) : MG := layP (e - 2) 2 t (putP (n11, n11, n11, 0) 1 6 0)
/-- from a node down to the top -/
def walkP (be : List Nat) : Nat → Nat → List Nat
  | 0, _ => []
  | k + 1, nd => if nd = 99 then [] else nd :: walkP be k (gN be nd)
/-- the ends above a node -/
def abvP (be : List Nat) (nd : Nat) : Nat → Nat
  | 0 => 0
  | j + 1 => abvP be nd j + if (walkP be 11 j).contains nd then 2 ^ j else 0
def pop6 (x : Nat) : Nat := x % 2 + x / 2 % 2 + x / 4 % 2 + x / 8 % 2 + x / 16 % 2 + x / 32 % 2
/-- terms: nodes, and 200 behind two terms is a fork of both -/
abbrev Tr : Type := List Nat
abbrev fkT (l r : Tr) : Tr := l ++ (r ++ [200])
def symRun : List (Nat × Nat × Nat) → (Nat → Tr) → List Tr
  | [], _ => []
  | p :: xs, s => fkT (s p.2.1) (s p.2.2) :: symRun xs (fun j => if j = p.1 then fkT (s p.2.1) (s p.2.2) else s j)
def cProg (g : CG) : List (Nat × Nat × Nat) := g.2.2.2.map fun f => (f, gN g.2.1 f, gN g.2.2.1 f)
def forksP (e : Nat) : List Nat := (List.range (e - 1)).map (6 + ·)
def mOrd (e : Nat) (g : MG) : List Nat := ((List.range (e - 1)).map fun s => (forksP e).filter fun f => pop6 (abvP g.1 f e) == s + 2).flatten
def mProg (e : Nat) (g : MG) : List (Nat × Nat × Nat) := (mOrd e g).map fun f => (f, gN g.2.1 f, gN g.2.2.1 f)
def cSym (e t : Nat) : List Tr := symRun (cProg (cTree e t)) fun n => [n]
def mSym (e t : Nat) : List Tr := symRun (mProg e (mTree e t)) fun n => [if n < 6 then leafN n else n + 300]
/-- the reference's number of the class's tree -/
def piD (j r : Nat) : Nat := if r = 0 then 0 else if r % 2 = 1 then (r + 1) / 2 else j + r / 2 - 1
def piN : Nat → Nat → Nat → Nat
  | 0, _, _ => 0
  | k + 1, j, r => piD j (r % (2 * j - 1)) + (2 * j - 1) * piN k (j + 1) (r / (2 * j - 1))
def piT (e t : Nat) : Nat := piN (e - 2) 2 t
def allN (e : Nat) : Nat := if e = 2 then 1 else if e = 3 then 3 else if e = 4 then 15 else if e = 5 then 105 else 945
/-- the ends of a term, as bits -/
def emT : Tr → Nat
  | [] => 0
  | x :: xs => (if x = 200 then 0 else 2 ^ ((x + 1) / 2)) ||| emT xs
def cJ (e t : Nat) : List Nat := (cSym e t).dropLast.map emT
def mJ (e t : Nat) : List Nat := (forksP e).map fun f => abvP (mTree e t).1 f e
def chkA (e t : Nat) : Bool := (cSym e t).isPerm (mSym e (piT e t)) && ((cSym e t).getLast? == ((mSym e (piT e t)).getLast?))
def chkB (e t : Nat) : Bool := (cJ e t).all (fun x => (mJ e (piT e t)).contains x && x != 2 ^ e - 1) && (mJ e (piT e t)).all fun x => x == 2 ^ e - 1 || (cJ e t).contains x
def chkC (e t : Nat) : Bool := (mOrd e (mTree e t)).getLast? == some (mTree e t).2.2.2 && (List.range e).all fun j => (walkP (mTree e t).1 11 j).length ≤ 9 && (walkP (mTree e t).1 11 j).length > 0
def chkT (e t : Nat) : Bool := chkA e t && chkB e t && chkC e t
