/-! The two constructors, run by the small machine. -/
def sgA : Sg := sAlloc (0, 0, fun _ => (0, 0), fun _ _ => -1, fun _ _ => 0) 9 8
def con1 : Option St := run 40000 20 171 0 (entL 171 [(2, 0)]) [] sgA
def con2 (σ : Sg) : Option St := run 40000 20 181 0 (entL 181 [(2, 38)]) [] (sAlloc σ 10 82)
def void (y pc : Nat) (S : List AV) : Bool := match retV y pc S with
  | some [] => true
  | _ => false
/-- shapes and references as sg has them -/
def chkS (σ : Sg) : Bool := Nat.beq σ.1 82 && Nat.beq σ.2.1 nSl && (List.range 82).all (fun c => decide (σ.2.2.1 c = SH c) && (List.range (bif Nat.blt (SH c).1 100 then nN (SH c).1 else 0)).all (fun k => decide (σ.2.2.2.1 c k = RF (-1) c k)))
/-- numbers -/
def chkV (v : Mem) : Bool := decide (v 0 5 = 0) && decide (v 0 6 = -1) && decide (v 0 7 = 0) && decide (v 28 2 = 0) && decide (v 38 1 = 0) && decide (v 38 4 = 0) && decide (v 38 6 = -1) && decide (v 38 48 = 0) && (List.range 4).all (fun k => decide (v 38 (38 + k) = 0)) && (List.range kwL.length).all (fun i => decide (v 27 i = pklA 0 (kwL.getD i [])))
theorem con_chk : (match con1 with
  | some q => void 171 q.1 q.2.2.1 && Nat.beq q.2.2.2.1 38 && (match con2 q.2.2.2 with
    | some r => void 181 r.1 r.2.2.1 && (chkS r.2.2.2 && chkV r.2.2.2.2.2.2.2)
    | none => false)
  | none => false) = true := by decide +kernel
