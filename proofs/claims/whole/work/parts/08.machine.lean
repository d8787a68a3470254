/-! The small machine. -/
/-- cells, slots made, shapes (kind, length), references, numbers -/
abbrev Sg : Type := Nat × Nat × (Nat → Nat × Nat) × (Nat → Nat → Int) × (Nat → Nat → Int)
def w32 (a : Int) : Int := (a + 2147483648) % 4294967296 - 2147483648
def w64 (a : Int) : Int := (a + 9223372036854775808) % 18446744073709551616 - 9223372036854775808
def w8 (a : Int) : Int := (a + 128) % 256 - 128
def w16u (a : Int) : Int := a % 65536
def iand (a b : Int) : Int := (Int32.ofInt a &&& Int32.ofInt b).toInt
def land (a b : Int) : Int := (Int64.ofInt a &&& Int64.ofInt b).toInt
def lor (a b : Int) : Int := (Int64.ofInt a ||| Int64.ofInt b).toInt
def lshl (a b : Int) : Int := (Int64.ofInt a <<< ((Int32.ofInt b).toInt64 &&& 63)).toInt
def lshr (a b : Int) : Int := (Int64.ofInt a >>> ((Int32.ofInt b).toInt64 &&& 63)).toInt
def lushr (a b : Int) : Int := ((Int64.ofInt a).toUInt64 >>> ((Int32.ofInt b).toInt64.toUInt64 &&& Int64.toUInt64 63)).toInt64.toInt
def ishr (a b : Int) : Int := (Int32.ofInt a >>> (Int32.ofInt b &&& 31)).toInt
def lcm3 (a b : Int) : Int := if a < b then -1 else if b < a then 1 else 0
def up (v : Nat → Nat → Int) (c k : Nat) (a : Int) : Nat → Nat → Int := fun c' k' => if c' = c then (if k' = k then a else v c' k') else v c' k'
def cpV (v : Nat → Nat → Int) (sc sp dc dp n : Nat) : Nat → Nat → Int := fun c k => if c = dc then (if dp ≤ k ∧ k < dp + n then v sc (sp + (k - dp)) else v c k) else v c k
def mkC (f : Nat → Nat → Int) (n : Nat) (a : Int) : Nat → Nat → Int := fun c k => if c = n then a else f c k
def sAlloc (σ : Sg) (kd len : Nat) : Sg := (σ.1 + 1, σ.2.1 + len, fun c => if c = σ.1 then (kd, len) else σ.2.2.1 c, mkC σ.2.2.2.1 σ.1 (-1), mkC σ.2.2.2.2 σ.1 0)
def sPutV (σ : Sg) (c k : Nat) (a : Int) : Sg := (σ.1, σ.2.1, σ.2.2.1, σ.2.2.2.1, up σ.2.2.2.2 c k a)
def sPutR (σ : Sg) (c k : Nat) (a : Int) : Sg := (σ.1, σ.2.1, σ.2.2.1, up σ.2.2.2.1 c k a, σ.2.2.2.2)
def sCpy (σ : Sg) (sc sp dc dp n : Nat) : Sg := (σ.1, σ.2.1, σ.2.2.1, σ.2.2.2.1, cpV σ.2.2.2.2 sc sp dc dp n)
def ld (L : List AV) (k t : Nat) : Option Int := match L[k]? with
  | some q => bif Nat.beq q.1 t then some q.2 else none
  | none => none
/-- a store takes a long below it away -/
def inv1 (L : List AV) (k : Nat) : List AV := match k with
  | 0 => L
  | j + 1 => match L[j]? with
    | some q => bif Nat.beq q.1 1 then L.set j (3, 0) else L
    | none => L
def sto1 (L : List AV) (k : Nat) (a : AV) : Option (List AV) := bif Nat.blt k L.length then some ((inv1 L k).set k a) else none
def sto2 (L : List AV) (k : Nat) (a : AV) : Option (List AV) := bif Nat.blt (k + 1) L.length then some (((inv1 L k).set k a).set (k + 1) (3, 0)) else none
def brc (c : Jvm.ClassFile.Cond) (a b : Int) (t f : Nat) : Nat := match c with
  | .eq => if a = b then t else f
  | .ne => if a = b then f else t
  | .lt => if a < b then t else f
  | .ge => if a < b then f else t
  | .gt => if b < a then t else f
  | .le => if b < a then f else t
def tsw (lo : Int) (ts : List Int) (dflt : Int) (x : Int) : Int := match ts with
  | [] => dflt
  | t :: ts => if x = lo then t else tsw (lo + 1) ts dflt x
def lsw (ps : List Int) (dflt : Int) (x : Int) : Int := match ps with
  | k :: t :: ps => if x = k then t else lsw ps dflt x
  | _ => dflt
abbrev St : Type := Nat × List AV × List AV × Sg
def pI (pc : Nat) (L S : List AV) (σ : Sg) (a : Int) : Option St := some (pc, L, (0, a) :: S, σ)
def pJ (pc : Nat) (L S : List AV) (σ : Sg) (a : Int) : Option St := some (pc, L, (1, a) :: S, σ)
def pR (pc : Nat) (L S : List AV) (σ : Sg) (a : Int) : Option St := some (pc, L, (2, a) :: S, σ)
def bI (S : List AV) (f : Int → List AV → Option St) : Option St := match S with
  | q :: S => bif Nat.beq q.1 0 then f q.2 S else none
  | [] => none
def bJ (S : List AV) (f : Int → List AV → Option St) : Option St := match S with
  | q :: S => bif Nat.beq q.1 1 then f q.2 S else none
  | [] => none
def bR (S : List AV) (f : Int → List AV → Option St) : Option St := match S with
  | q :: S => bif Nat.beq q.1 2 then f q.2 S else none
  | [] => none
/-- a cell that the machine holds, of a kind -/
def isC (σ : Sg) (a : Int) (kd : Nat) : Bool := match a with
  | .ofNat c => Nat.blt c σ.1 && Nat.beq (σ.2.2.1 c).1 kd
  | _ => false
def clen (σ : Sg) (c : Nat) : Int := (σ.2.2.1 c).2
abbrev inB (j : Int) (n : Int) : Prop := 0 ≤ j ∧ j < n
def gvar (L S : List AV) (σ : Sg) (pc k t : Nat) : Option St := match ld L k t with
  | some a => some (pc, L, (t, a) :: S, σ)
  | none => none
def svar (L : List AV) (S : List AV) (σ : Sg) (pc k t : Nat) : Option St := match S with
  | q :: S => bif Nat.beq q.1 t then (match (bif Nat.beq t 1 then sto2 L k q else sto1 L k q) with
    | some L => some (pc, L, S, σ)
    | none => none) else none
  | [] => none
def gfld (L S : List AV) (σ : Sg) (pc : Nat) (tg ci k : Nat) (a : Int) : Option St := bif isC σ a ci then some (pc, L, (bif Nat.beq tg 2 then (2, σ.2.2.2.1 a.toNat k) else bif Nat.beq tg 1 then (1, σ.2.2.2.2 a.toNat k) else (0, σ.2.2.2.2 a.toNat k)) :: S, σ) else none
def pfld (L S : List AV) (σ : Sg) (pc : Nat) (tg ci k : Nat) (q : AV) (a : Int) : Option St := bif isC σ a ci then (match tg with
  | 0 => bif Nat.beq q.1 0 then some (pc, L, S, sPutV σ a.toNat k q.2) else none
  | 1 => bif Nat.beq q.1 1 then some (pc, L, S, sPutV σ a.toNat k q.2) else none
  | 2 => bif Nat.beq q.1 2 && decide (-1 ≤ q.2) then some (pc, L, S, sPutR σ a.toNat k q.2) else none
  | _ => bif Nat.beq q.1 0 then (if q.2 = 0 ∨ q.2 = 1 then some (pc, L, S, sPutV σ a.toNat k q.2) else none) else none) else none
def catS (S : List AV) : Nat := match S with
  | [] => 0
  | q :: S => (bif Nat.beq q.1 1 then 2 else 1) + catS S
def bif0 (b : Bool) (x : Option St) : Option St := bif b then x else none
def guardP (p : Prop) [Decidable p] (x : Option St) : Option St := if p then x else none
/-- a text constant's bytes lie at -2 - nS - j, the text itself at -2 - j, j its number -/
def strOf (nS : Nat) (a : Int) : Option Nat := if a ≤ -2 ∧ -2 - (nS : Int) < a then some (-2 - a).toNat else none
def bytOf (nS : Nat) (a : Int) : Option Nat := if a ≤ -2 - (nS : Int) ∧ -2 - 2 * (nS : Int) < a then some (-2 - (nS : Int) - a).toNat else none
def stp (nS : Nat) (sB : List (List Int)) (i : Instr) (r : List Int) (pc : Nat) (L S : List AV) (σ : Sg) : Option St := match i with
  | .iconst n => bif0 (decide (-1 ≤ n) && decide (n < 6)) (pI (pc + 1) L S σ n)
  | .bipush n => bif0 (decide (-128 ≤ n) && decide (n < 128)) (pI (pc + 2) L S σ n)
  | .sipush n => bif0 (decide (-32768 ≤ n) && decide (n < 32768)) (pI (pc + 3) L S σ n)
  | .lconst n => pJ (pc + 1) L S σ (n : Nat)
  | .aconst_null => pR (pc + 1) L S σ (-1)
  | .iload_n k => gvar L S σ (pc + 1) k 0
  | .iload k => gvar L S σ (pc + 2) k 0
  | .lload_n k => gvar L S σ (pc + 1) k 1
  | .lload k => gvar L S σ (pc + 2) k 1
  | .aload_n k => gvar L S σ (pc + 1) k 2
  | .aload k => gvar L S σ (pc + 2) k 2
  | .istore_n k => svar L S σ (pc + 1) k 0
  | .istore k => svar L S σ (pc + 2) k 0
  | .lstore_n k => svar L S σ (pc + 1) k 1
  | .lstore k => svar L S σ (pc + 2) k 1
  | .astore_n k => svar L S σ (pc + 1) k 2
  | .iinc k n => match ld L k 0 with
    | some a => match sto1 L k (0, w32 (a + n)) with
      | some L => some (pc + 3, L, S, σ)
      | none => none
    | none => none
  | .iadd => bI S fun b S => bI S fun a S => pI (pc + 1) L S σ (w32 (a + b))
  | .isub => bI S fun b S => bI S fun a S => pI (pc + 1) L S σ (w32 (a - b))
  | .imul => bI S fun b S => bI S fun a S => pI (pc + 1) L S σ (w32 (a * b))
  | .iand => bI S fun b S => bI S fun a S => pI (pc + 1) L S σ (iand a b)
  | .ishr => bI S fun b S => bI S fun a S => pI (pc + 1) L S σ (ishr a b)
  | .idiv => bI S fun b S => bI S fun a S => guardP (b ≠ 0) (pI (pc + 1) L S σ (w32 (a.tdiv b)))
  | .irem => bI S fun b S => bI S fun a S => guardP (b ≠ 0) (pI (pc + 1) L S σ (a.tmod b))
  | .ineg => bI S fun a S => pI (pc + 1) L S σ (w32 (-a))
  | .ladd => bJ S fun b S => bJ S fun a S => pJ (pc + 1) L S σ (w64 (a + b))
  | .lsub => bJ S fun b S => bJ S fun a S => pJ (pc + 1) L S σ (w64 (a - b))
  | .lmul => bJ S fun b S => bJ S fun a S => pJ (pc + 1) L S σ (w64 (a * b))
  | .ldiv => bJ S fun b S => bJ S fun a S => guardP (b ≠ 0) (pJ (pc + 1) L S σ (w64 (a.tdiv b)))
  | .lrem => bJ S fun b S => bJ S fun a S => guardP (b ≠ 0) (pJ (pc + 1) L S σ (a.tmod b))
  | .lneg => bJ S fun a S => pJ (pc + 1) L S σ (w64 (-a))
  | .lshr => bI S fun b S => bJ S fun a S => pJ (pc + 1) L S σ (lshr a b)
  | .lushr => bI S fun b S => bJ S fun a S => pJ (pc + 1) L S σ (lushr a b)
  | .lcmp => bJ S fun b S => bJ S fun a S => pI (pc + 1) L S σ (lcm3 a b)
  | .i2l => bI S fun a S => pJ (pc + 1) L S σ a
  | .l2i => bJ S fun a S => pI (pc + 1) L S σ (w32 a)
  | .i2b => bI S fun a S => pI (pc + 1) L S σ (w8 a)
  | .i2c => bI S fun a S => pI (pc + 1) L S σ (w16u a)
  | .dup => match S with
    | q :: S => bif0 (!Nat.beq q.1 1) (some (pc + 1, L, q :: q :: S, σ))
    | [] => none
  | .dup_x1 => match S with
    | q :: q' :: S => bif0 (!Nat.beq q.1 1 && !Nat.beq q'.1 1) (some (pc + 1, L, q :: q' :: q :: S, σ))
    | _ => none
  | .dup2 => match S with
    | q :: q' :: S => bif0 (!Nat.beq q.1 1 && !Nat.beq q'.1 1) (some (pc + 1, L, q :: q' :: q :: q' :: S, σ))
    | _ => none
  | .pop => match S with
    | q :: S => bif0 (!Nat.beq q.1 1) (some (pc + 1, L, S, σ))
    | [] => none
  | .goto _ => match r with
    | [t] => some (t.toNat, L, S, σ)
    | _ => none
  | .ifCond c _ => match r with
    | [t] => bI S fun a S => some (brc c a 0 t.toNat (pc + 3), L, S, σ)
    | _ => none
  | .if_icmp c _ => match r with
    | [t] => bI S fun b S => bI S fun a S => some (brc c a b t.toNat (pc + 3), L, S, σ)
    | _ => none
  | .ifnull _ => match r with
    | [t] => bR S fun a S => bif0 (decide (-1 ≤ a)) (some (if a = -1 then t.toNat else pc + 3, L, S, σ))
    | _ => none
  | .ifnonnull _ => match r with
    | [t] => bR S fun a S => bif0 (decide (-1 ≤ a)) (some (if a = -1 then pc + 3 else t.toNat, L, S, σ))
    | _ => none
  | .tableswitch .. => match r with
    | _ :: lo :: dflt :: ts => bI S fun a S => some ((tsw lo ts dflt a).toNat, L, S, σ)
    | _ => none
  | .lookupswitch .. => match r with
    | _ :: dflt :: ps => bI S fun a S => some ((lsw ps dflt a).toNat, L, S, σ)
    | _ => none
  | .ldc _ => match r with
    | [0, v] => bif0 (decide (-2147483648 ≤ v) && decide (v < 2147483648)) (pI (pc + 2) L S σ v)
    | [2, j] => bif0 (decide (0 ≤ j)) (pR (pc + 2) L S σ (-2 - j))
    | _ => none
  | .ldc_w _ => match r with
    | [2, j] => bif0 (decide (0 ≤ j)) (pR (pc + 3) L S σ (-2 - j))
    | _ => none
  | .ldc2_w _ => match r with
    | [1, v] => bif0 (decide (-9223372036854775808 ≤ v) && decide (v < 9223372036854775808)) (pJ (pc + 3) L S σ v)
    | _ => none
  | .getstatic _ => match r with
    | [0, v] => bif0 (decide (-2147483648 ≤ v) && decide (v < 2147483648)) (pI (pc + 3) L S σ v)
    | [2, v] => bif0 (decide (v < 0)) (pR (pc + 3) L S σ v)
    | _ => none
  | .getfield _ => match r with
    | [tg, ci, k] => bR S fun a S => match ci with
      | 50 => match strOf nS a with
        | some j => match k with
          | 0 => pR (pc + 3) L S σ (-2 - (nS : Int) - (j : Int))
          | _ => pI (pc + 3) L S σ 0
        | none => none
      | _ => gfld L S σ (pc + 3) tg.toNat ci.toNat k.toNat a
    | _ => none
  | .putfield _ => match r with
    | [tg, ci, k, _] => match S with
      | q :: S => bR S fun a S => pfld L S σ (pc + 3) tg.toNat ci.toNat k.toNat q a
      | [] => none
    | _ => none
  | .arraylength => bR S fun a S => match bytOf nS a with
    | some j => pI (pc + 1) L S σ ((sB.getD j []).length : Nat)
    | none => bif0 (isC σ a 100 || isC σ a 101 || isC σ a 102 || isC σ a 103) (pI (pc + 1) L S σ (clen σ a.toNat))
  | .iaload => bI S fun j S => bR S fun a S => bif0 (isC σ a 102) (guardP (inB j (clen σ a.toNat)) (pI (pc + 1) L S σ (σ.2.2.2.2 a.toNat j.toNat)))
  | .laload => bI S fun j S => bR S fun a S => bif0 (isC σ a 103) (guardP (inB j (clen σ a.toNat)) (pJ (pc + 1) L S σ (σ.2.2.2.2 a.toNat j.toNat)))
  | .baload => bI S fun j S => bR S fun a S => match bytOf nS a with
    | some t => guardP (inB j ((sB.getD t []).length : Nat)) (pI (pc + 1) L S σ ((sB.getD t []).getD j.toNat 0))
    | none => bif0 (isC σ a 100 || isC σ a 101) (guardP (inB j (clen σ a.toNat)) (pI (pc + 1) L S σ (σ.2.2.2.2 a.toNat j.toNat)))
  | .iastore => bI S fun x S => bI S fun j S => bR S fun a S => bif0 (isC σ a 102) (guardP (inB j (clen σ a.toNat)) (some (pc + 1, L, S, sPutV σ a.toNat j.toNat x)))
  | .lastore => bJ S fun x S => bI S fun j S => bR S fun a S => bif0 (isC σ a 103) (guardP (inB j (clen σ a.toNat)) (some (pc + 1, L, S, sPutV σ a.toNat j.toNat x)))
  | .bastore => bI S fun x S => bI S fun j S => bR S fun a S => bif isC σ a 101 then guardP (inB j (clen σ a.toNat)) (some (pc + 1, L, S, sPutV σ a.toNat j.toNat (w8 x))) else
      bif0 (isC σ a 100) (guardP (inB j (clen σ a.toNat)) (guardP (x = 0 ∨ x = 1) (some (pc + 1, L, S, sPutV σ a.toNat j.toNat x))))
  | .new _ => match r with
    | [ci] => bif0 (decide (0 ≤ ci) && decide (ci < 11)) (some (pc + 3, L, (2, (σ.1 : Int)) :: S, sAlloc σ ci.toNat ([1, 5, 7, 13, 14, 16, 4, 5, 8, 8, 82].getD ci.toNat 0)))
    | _ => none
  | .newarray ty => bI S fun n S => bif0 (decide (0 ≤ n) && decide (n < 20000)) (match ty with
    | .boolean => some (pc + 2, L, (2, (σ.1 : Int)) :: S, sAlloc σ 100 n.toNat)
    | .byte => some (pc + 2, L, (2, (σ.1 : Int)) :: S, sAlloc σ 101 n.toNat)
    | .int => some (pc + 2, L, (2, (σ.1 : Int)) :: S, sAlloc σ 102 n.toNat)
    | .long => some (pc + 2, L, (2, (σ.1 : Int)) :: S, sAlloc σ 103 n.toNat)
    | _ => none)
  | .invokespecial _ => match r with
    | [-1] => bR S fun a S => bif0 (decide (0 ≤ a) && decide (catS S ≤ 8)) (some (pc + 3, L, S, σ))
    | _ => none
  | .invokestatic _ => match r with
    | [-2] => bI S fun n S => bI S fun dp S => bR S fun b S => bI S fun sp S => bR S fun a S => bif0 (isC σ a 101 && isC σ b 101 && decide (catS S ≤ 8))
        (guardP (0 ≤ n ∧ 0 ≤ sp ∧ 0 ≤ dp ∧ sp + n ≤ clen σ a.toNat ∧ dp + n ≤ clen σ b.toNat) (some (pc + 3, L, S, sCpy σ a.toNat sp.toNat b.toNat dp.toNat n.toNat)))
    | _ => none
  | _ => none
