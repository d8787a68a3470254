/-! A small machine over numbers: what the bytecode of the class, the reference and the few members of the JDK does, told over plain Int. Part 06 ties it to the JVM's own machine. -/
abbrev AV : Type := Nat × Int
abbrev En : Type := Nat × Instr × List Int
/-- cells, slots made, shapes (kind, length), references, numbers -/
abbrev Sg : Type := Nat × Nat × (Nat → Nat × Nat) × (Nat → Nat → Int) × (Nat → Nat → Int)
def w32 (a : Int) : Int := (a + 2147483648) % 4294967296 - 2147483648
def w64 (a : Int) : Int := (a + 9223372036854775808) % 18446744073709551616 - 9223372036854775808
def w8 (a : Int) : Int := (a + 128) % 256 - 128
def w16u (a : Int) : Int := a % 65536
def iand (a b : Int) : Int := (Int32.ofInt a &&& Int32.ofInt b).toInt
def land (a b : Int) : Int := (Int64.ofInt a &&& Int64.ofInt b).toInt
def lor (a b : Int) : Int := (Int64.ofInt a ||| Int64.ofInt b).toInt
def lshl (a b : Int) : Int := (Int64.ofInt a <<< ((Int32.ofInt b).toInt64 &&& 63)).toInt
def lshr (a b : Int) : Int := (Int64.ofInt a >>> ((Int32.ofInt b).toInt64 &&& 63)).toInt
def lushr (a b : Int) : Int := ((Int64.ofInt a).toUInt64 >>> ((Int32.ofInt b).toInt64.toUInt64 &&& Int64.toUInt64 63)).toInt64.toInt
def ishr (a b : Int) : Int := (Int32.ofInt a >>> (Int32.ofInt b &&& 31)).toInt
def lcm3 (a b : Int) : Int := if a < b then -1 else if b < a then 1 else 0
def up (v : Nat → Nat → Int) (c k : Nat) (a : Int) : Nat → Nat → Int := fun c' k' => if c' = c then (if k' = k then a else v c' k') else v c' k'
def cpV (v : Nat → Nat → Int) (sc sp dc dp n : Nat) : Nat → Nat → Int := fun c k => if c = dc then (if dp ≤ k ∧ k < dp + n then v sc (sp + (k - dp)) else v c k) else v c k
def mkC (f : Nat → Nat → Int) (n : Nat) (a : Int) : Nat → Nat → Int := fun c k => if c = n then a else f c k
def sAlloc (σ : Sg) (kd len : Nat) : Sg := (σ.1 + 1, σ.2.1 + len, fun c => if c = σ.1 then (kd, len) else σ.2.2.1 c, mkC σ.2.2.2.1 σ.1 (-1), mkC σ.2.2.2.2 σ.1 0)
def sPutV (σ : Sg) (c k : Nat) (a : Int) : Sg := (σ.1, σ.2.1, σ.2.2.1, σ.2.2.2.1, up σ.2.2.2.2 c k a)
def sPutR (σ : Sg) (c k : Nat) (a : Int) : Sg := (σ.1, σ.2.1, σ.2.2.1, up σ.2.2.2.1 c k a, σ.2.2.2.2)
def sCpy (σ : Sg) (sc sp dc dp n : Nat) : Sg := (σ.1, σ.2.1, σ.2.2.1, σ.2.2.2.1, cpV σ.2.2.2.2 sc sp dc dp n)
def ld (L : List AV) (k t : Nat) : Option Int := match L[k]? with
  | some q => bif Nat.beq q.1 t then some q.2 else none
  | none => none
/-- a store takes a long below it away -/
def inv1 (L : List AV) (k : Nat) : List AV := match k with
  | 0 => L
  | j + 1 => match L[j]? with
    | some q => bif Nat.beq q.1 1 then L.set j (3, 0) else L
    | none => L
def sto1 (L : List AV) (k : Nat) (a : AV) : Option (List AV) := bif Nat.blt k L.length then some ((inv1 L k).set k a) else none
def sto2 (L : List AV) (k : Nat) (a : AV) : Option (List AV) := bif Nat.blt (k + 1) L.length then some (((inv1 L k).set k a).set (k + 1) (3, 0)) else none
def brc (c : Jvm.ClassFile.Cond) (a b : Int) (t f : Nat) : Nat := match c with
  | .eq => if a = b then t else f
  | .ne => if a = b then f else t
  | .lt => if a < b then t else f
  | .ge => if a < b then f else t
  | .gt => if b < a then t else f
  | .le => if b < a then f else t
def tsw (lo : Int) (ts : List Int) (dflt : Int) (x : Int) : Int := match ts with
  | [] => dflt
  | t :: ts => if x = lo then t else tsw (lo + 1) ts dflt x
def lsw (ps : List Int) (dflt : Int) (x : Int) : Int := match ps with
  | k :: t :: ps => if x = k then t else lsw ps dflt x
  | _ => dflt
abbrev St : Type := Nat × List AV × List AV × Sg
def pI (pc : Nat) (L S : List AV) (σ : Sg) (a : Int) : Option St := some (pc, L, (0, a) :: S, σ)
def pJ (pc : Nat) (L S : List AV) (σ : Sg) (a : Int) : Option St := some (pc, L, (1, a) :: S, σ)
def pR (pc : Nat) (L S : List AV) (σ : Sg) (a : Int) : Option St := some (pc, L, (2, a) :: S, σ)
def bI (S : List AV) (f : Int → List AV → Option St) : Option St := match S with
  | q :: S => bif Nat.beq q.1 0 then f q.2 S else none
  | [] => none
def bJ (S : List AV) (f : Int → List AV → Option St) : Option St := match S with
  | q :: S => bif Nat.beq q.1 1 then f q.2 S else none
  | [] => none
def bR (S : List AV) (f : Int → List AV → Option St) : Option St := match S with
  | q :: S => bif Nat.beq q.1 2 then f q.2 S else none
  | [] => none
/-- a cell that the machine holds, of a kind -/
def isC (σ : Sg) (a : Int) (kd : Nat) : Bool := match a with
  | .ofNat c => Nat.blt c σ.1 && Nat.beq (σ.2.2.1 c).1 kd
  | _ => false
def clen (σ : Sg) (c : Nat) : Int := (σ.2.2.1 c).2
def inB (j : Int) (n : Int) : Prop := 0 ≤ j ∧ j < n
def gvar (L S : List AV) (σ : Sg) (pc k t : Nat) : Option St := match ld L k t with
  | some a => some (pc, L, (t, a) :: S, σ)
  | none => none
def svar (L : List AV) (S : List AV) (σ : Sg) (pc k t : Nat) : Option St := match S with
  | q :: S => bif Nat.beq q.1 t then (match (bif Nat.beq t 1 then sto2 L k q else sto1 L k q) with
    | some L => some (pc, L, S, σ)
    | none => none) else none
  | [] => none
def gfld (L S : List AV) (σ : Sg) (pc : Nat) (tg ci k : Nat) (a : Int) : Option St := bif isC σ a ci then some (pc, L, (bif Nat.beq tg 2 then (2, σ.2.2.2.1 a.toNat k) else bif Nat.beq tg 1 then (1, σ.2.2.2.2 a.toNat k) else (0, σ.2.2.2.2 a.toNat k)) :: S, σ) else none
def pfld (L S : List AV) (σ : Sg) (pc : Nat) (tg ci k : Nat) (q : AV) (a : Int) : Option St := bif isC σ a ci then (match tg with
  | 0 => bif Nat.beq q.1 0 then some (pc, L, S, sPutV σ a.toNat k q.2) else none
  | 1 => bif Nat.beq q.1 1 then some (pc, L, S, sPutV σ a.toNat k q.2) else none
  | 2 => bif Nat.beq q.1 2 && decide (-1 ≤ q.2) then some (pc, L, S, sPutR σ a.toNat k q.2) else none
  | _ => bif Nat.beq q.1 0 then (if q.2 = 0 ∨ q.2 = 1 then some (pc, L, S, sPutV σ a.toNat k q.2) else none) else none) else none
