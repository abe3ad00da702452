/-! THE TWO CONSTRUCTORS, by the kernel -/
def ax_cO : ax_O ax_H := (ax_lget, ax_lput, fun h a t i => if a = 1000 then none else ax_lld (fun _ => 0) 0 h a t i, ax_lst, fun h a => if a = 1000 then none else ax_lln 0 h a, ax_lnw, ax_lna, ax_lcp, ax_lkl)
/-- what a cell is behind the constructors -/
def boC (a : Nat) (q : (Nat × Nat) ⊕ (Nat × List Nat)) (c : ax_C) : Bool := match q, c with
  | .inl p, .inl r => p.1 == r.1 && p.2 == r.2.1 && (List.range (min p.2 102)).all fun i => r.2.2 i == (if a == 3 || a == 83 then -1 else 0)
  | .inr p, .inr r => p.1 == r.1 && p.2.length == r.2.length && (List.range p.2.length).all fun k => match p.2[k]?, r.2[k]? with
    | some 0, some (.int x) => x == 0
    | some 1, some (.int x) => x == 0
    | some 2, some (.long _) => true
    | some (b + 3), some (.ref e) => b == e
    | _, _ => false
  | _, _ => false
def boH (h : ax_H) : Bool := h.length == 105 && (List.range 105).all fun a => match ax_Sh[a]?, h[a]? with
  | some q, some c => boC a q c
  | _, _ => false
def bo1 : Option ax_H := match ax_lnw [] 10 with
  | some p => if p.1 = 0 then (match ax_run ax_cO 2000 59 0 0 (ax_ent [.ref 0] 1) [] p.2 with
    | some u => match u.1 with
      | none => some u.2
      | some _ => none
    | none => none) else none
  | none => none
def bo2 (h : ax_H) : Option ax_H := match ax_lnw h 11 with
  | some p => if p.1 = 82 then (match ax_run ax_cO 2000 59 195 0 (ax_ent [.ref 82] 1) [] p.2 with
    | some u => match u.1 with
      | none => some u.2
      | some _ => none
    | none => none) else none
  | none => none
def boL : Bool := match bo1 with
  | some h => (match bo2 h with
    | some k => boH k
    | none => false)
  | none => false
theorem bo_ok : boL = true := by decide +kernel
