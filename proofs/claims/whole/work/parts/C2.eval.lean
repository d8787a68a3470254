/-! What a program does, purely: class and reference are held against it. Rows as the class has them. -/
abbrev XE : Type := Except (Int × Rho) (List Rw × Rho)
abbrev XC : Type := Int → List Rw → Rho → XE
def bE (r : XE) (k : List Rw → Rho → XE) : XE := match r with
  | .error e => .error e
  | .ok q => k q.1 q.2
/-- r comes, over the rows S -/
def rtE (S : List Rw) (r : Rw) (ρ : Rho) : XE := .ok ([r], wH ρ (gc (S ++ [r]) z0 (rH ρ)))
/-- a new block of the m bytes g comes, over the rows S -/
def mkE (z : Nat) (S : List Rw) (m : Nat) (g : Nat → Int) (ρ : Rho) : XE := match fit z (m + 1) 0 (rH ρ) with
  | none => .error (2, ρ)
  | some a => .ok ([((a : Int), ((3000 + a : Nat) : Int), (m : Int))], mkR S m a g ρ)
def g2 (l : List Rw) (k : Nat) : Rw := l.getD k (-1, 0, 0)
def jnE (tx : Nat → Int) (z : Nat) (S : List Rw) (x r : Rw) (ρ : Rho) : XE := if x.2.2 = 0 then rtE S r ρ else if r.2.2 = 0 then rtE S x ρ else mkE z S (x.2.2.toNat + r.2.2.toNat) (jnB (bt tx (rB ρ)) x r) ρ
def fdE (tx : Nat → Int) (S : List Rw) (x r : Rw) (ρ : Rho) : XE := if 20000 < rN ρ + x.2.2.toNat then .error (4, wN ρ 20000) else rtE S (-1, fnR (bt tx (rB ρ)) x r, 0) (wN ρ (rN ρ + x.2.2.toNat))
def opE (tx : Nat → Int) (z : Nat) (k ty : Int) (S : List Rw) (x r : Rw) (ρ : Rho) : XE :=
  if lvl k = 2 then rtE S (-1, cmR (bt tx (rB ρ)) k ty x r, 0) ρ
  else if k = 38 then jnE tx z S x r ρ
  else if (k = 47 ∨ k = 37) ∧ r.2.1 = 0 then .error (1, ρ)
  else rtE S (-1, rkn k x.2.1 r.2.1, 0) ρ
def oneE (z : Nat) (k : Int) (S : List Rw) (x : Rw) (ρ : Rho) : XE := if k = 18 then rtE S (-1, x.2.2, 0) ρ else if k = 11 then mkE z S (dcl x.2.1) (dch x.2.1) ρ else mkE z S 1 (fun _ => w8 (w8 x.2.1)) ρ
def frE (k : Int) (S : List Rw) (x : Rw) (ρ : Rho) : XE := rtE S (-1, (if k = 45 then w32 (-x.2.1) else 1 - tr x.2.1), 0) ρ
def evE (u : Nat → Int) (n : Nat) (G : Fn) (tx : Nat → Int) (z : Nat) (cl : XC) (B : Nat) (L : Sc) : Jvm.Term → List Rw → Rho → XE
  | .arg i, S, ρ => .ok ([if kd u n i = 3 then (-1, vl u n i, 0) else if kd u n i = 4 then (-1, (ps u n i : Int) + 1, vl u n i) else S.getD (B + (slt L (vl u n i)).toNat) (-1, 0, 0)], ρ)
  | .elem _ e, S, ρ => evE u n G tx z cl B L e S ρ
  | .mul (.arg i) e, S, ρ => bE (evE u n G tx z cl B L e S ρ) (fun q ρ1 => frE (kd u n i) S (g2 q 0) ρ1)
  | .add (.arg i) (.sub l r), S, ρ =>
    if lvl (kd u n i) ≤ 1 then bE (evE u n G tx z cl B L l S ρ) (fun q ρ1 => if tr (g2 q 0).2.1 = (if kd u n i = 20 then 1 else 0) then rtE S (-1, tr (g2 q 0).2.1, 0) ρ1 else bE (evE u n G tx z cl B L r S (wH ρ1 (gc S z0 (rH ρ1)))) (fun q2 ρ2 => rtE S (-1, tr (g2 q2 0).2.1, 0) ρ2))
    else bE (evE u n G tx z cl B L l S ρ) (fun q ρ1 => bE (evE u n G tx z cl B L r (S ++ q) ρ1) (fun q2 ρ2 => opE tx z (kd u n i) (tyE u n G L l) S (g2 q 0) (g2 q2 0) ρ2))
  | .div s e, S, ρ => bE (evE u n G tx z cl B L s S ρ) (fun q ρ1 => bE (evE u n G tx z cl B L e (S ++ q) ρ1) (fun q2 ρ2 => rtE S (-1, byA (bt tx (rB ρ2)) (g2 q 0) (g2 q2 0).2.1, 0) ρ2))
  | .rem s p, S, ρ => bE (evE u n G tx z cl B L s S ρ) (fun q ρ1 => bE (evE u n G tx z cl B L p (S ++ q) ρ1) (fun q2 ρ2 => rtE S (ptR (g2 q 0) (g2 q2 0).2.1 (g2 q2 1).2.1) ρ2))
  | .op2 .iand (.arg i) e, S, ρ => bE (evE u n G tx z cl B L e S ρ) (fun q ρ1 => oneE z (kd u n i) S (g2 q 0) ρ1)
  | .op2 .ior _ p, S, ρ => bE (evE u n G tx z cl B L p S ρ) (fun q ρ1 => fdE tx S (g2 q 0) (g2 q 1) ρ1)
  | .op2 .ixor (.arg i) as, S, ρ => bE (evE u n G tx z cl B L as S ρ) (fun q ρ1 => cl (fno G (vl u n i)) (S ++ q) ρ1)
  | .sub a b, S, ρ => bE (evE u n G tx z cl B L a S ρ) (fun q ρ1 => bE (evE u n G tx z cl B L b (S ++ q) ρ1) (fun q2 ρ2 => .ok (q ++ q2, ρ2)))
  | _, _, ρ => .ok ([], ρ)
/-- behind an S: false and all rows; or true and the row that is given back -/
abbrev XS : Type := Except (Int × Rho) (Bool × List Rw × Rho)
def bS (r : XS) (k : List Rw → Rho → XS) : XS := match r with
  | .error e => .error e
  | .ok (true, q, ρ) => .ok (true, q, ρ)
  | .ok (false, S, ρ) => k S ρ
def bES (r : XE) (k : List Rw → Rho → XS) : XS := match r with
  | .error e => .error e
  | .ok q => k q.1 q.2
def okW (S : List Rw) (ρ : Rho) : XS := .ok (false, S, wH ρ (gc S z0 (rH ρ)))
def stP (ρ : Rho) (k : Rho → XS) : XS := if rN ρ = 20000 then .error (4, ρ) else k (wN ρ (rN ρ + 1))
/-- m bytes g are told -/
def tlE (S : List Rw) (m : Nat) (g : Nat → Int) (ρ : Rho) : XS := if 2000 < (rT ρ).length + m then .error (5, ρ) else okW S (wT ρ (tlA (rT ρ) m g))
def whl (c b : List Rw → Rho → XS) : Nat → List Rw → Rho → XS
  | 0, _, ρ => .error (4, ρ)
  | k + 1, S, ρ => bS (c S ρ) (fun q ρ1 => if (g2 q 0).2.1 = 0 then okW S ρ1 else stP (wH ρ1 (gc S z0 (rH ρ1))) (fun ρ2 => bS (b S ρ2) (fun S1 ρ3 => whl c b k S1 ρ3)))
def clE (B : Nat) (L L' : Sc) (S : List Rw) (ρ : Rho) : XS := okW (clrR S (B + L.length) (L'.length - L.length)) ρ
def evB (u : Nat → Int) (n : Nat) (G : Fn) (tx : Nat → Int) (z : Nat) (cl : XC) (B : Nat) : Sc → Jvm.Term → List Rw → Rho → XS
  | L, .sub s r, S, ρ => bS (evB u n G tx z cl B L s S ρ) (fun S1 ρ1 => evB u n G tx z cl B (scB u n G L s) r S1 ρ1)
  | L, .elem (.arg i) (.sub e (.sub b c)), S, ρ => stP ρ (fun ρ0 =>
    if kd u n i = 25 then whl (fun S ρ => bES (evE u n G tx z cl B L e S ρ) (fun q ρ1 => .ok (false, q, ρ1))) (fun S ρ => bS (evB u n G tx z cl B L b S ρ) (fun S1 ρ1 => clE B L (scB u n G L b) S1 ρ1)) 20001 S ρ0
    else bES (evE u n G tx z cl B L e S ρ0) (fun q ρ1 =>
      if kd u n i = 19 then okW (S.set (B + L.length) (g2 q 0)) ρ1
      else if kd u n i = 2 then okW (S.set (B + (slt L (vl u n i)).toNat) (g2 q 0)) ρ1
      else if kd u n i = 22 then .ok (true, [g2 q 0], wH ρ1 (gc (S.take B ++ [g2 q 0]) z0 (rH ρ1)))
      else if kd u n i = 21 then (if tyE u n G L e = 0 then tlE S (dcl (g2 q 0).2.1) (dch (g2 q 0).2.1) ρ1 else tlE S (g2 q 0).2.2.toNat (fun j => bt tx (rB ρ1) ((g2 q 0).2.1.toNat + j)) ρ1)
      else if kd u n i = 12 then okW S ρ1
      else if (g2 q 0).2.1 = 0 then bS (evB u n G tx z cl B L c S (wH ρ1 (gc S z0 (rH ρ1)))) (fun S1 ρ2 => clE B L (scB u n G L c) S1 ρ2)
      else bS (evB u n G tx z cl B L b S (wH ρ1 (gc S z0 (rH ρ1)))) (fun S1 ρ2 => clE B L (scB u n G L b) S1 ρ2)))
  | _, _, S, ρ => .ok (false, S, ρ)
/-- a BLOCK -/
def evK (u : Nat → Int) (n : Nat) (G : Fn) (tx : Nat → Int) (z : Nat) (cl : XC) (B : Nat) (L : Sc) (b : Jvm.Term) (S : List Rw) (ρ : Rho) : XS := bS (evB u n G tx z cl B L b S ρ) (fun S1 ρ1 => clE B L (scB u n G L b) S1 ρ1)
def dfF : FnT := (0, [], 0, .null)
/-- a FUNCTION is called, k frames are left -/
def cal (u : Nat → Int) (n : Nat) (G : Fn) (tx : Nat → Int) (z : Nat) (l : List FnT) : Nat → XC
  | 0, _, _, ρ => .error (3, ρ)
  | k + 1, ci, S, ρ => if rN ρ = 20000 then .error (4, ρ) else
    match evK u n G tx z (cal u n G tx z l k) (S.length - (l.getD ci.toNat dfF).2.1.length) (scP u n (l.getD ci.toNat dfF).2.1) (l.getD ci.toNat dfF).2.2.2 (S ++ zr (slF u n G (l.getD ci.toNat dfF) - (l.getD ci.toNat dfF).2.1.length)) (wN ρ (rN ρ + 1)) with
    | .error e => .error e
    | .ok (true, q, ρ') => .ok (q, ρ')
    | .ok (false, _, ρ') => rtE (S.take (S.length - (l.getD ci.toNat dfF).2.1.length)) (-1, 0, 0) ρ'
