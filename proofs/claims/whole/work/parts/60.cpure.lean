/-! What the class's second walk makes of an E, purely: its type, the faults of NAMES in the order of the text, the faults of TYPES in the order in which they are found, the acts. G: the FUNCTIONS (packed NAME, types of the PARAMETERS, TYPE), L: the locals in scope (packed NAME, type). -/
abbrev Sc : Type := List (Int × Int)
abbrev Fn : Type := List (Int × List Int × Int)
abbrev Ac : Type := List (Int × Int × Int)
def slt (L : Sc) (x : Int) : Int := fndA (fun k => (L.getD k (0, 0)).1) x L.length 0
def slT (L : Sc) (x : Int) : Int := if slt L x < 0 then 0 else (L.getD (slt L x).toNat (0, 0)).2
def fno (G : Fn) (x : Int) : Int := fndA (fun k => (G.getD k (0, [], 0)).1) x G.length 0
def fnT (G : Fn) (x : Int) : Int := if fno G x < 0 then 0 else (G.getD (fno G x).toNat (0, [], 0)).2.2
def fnP (G : Fn) (x : Int) : List Int := if fno G x < 0 then [] else (G.getD (fno G x).toNat (0, [], 0)).2.1
/-- how many are handed over -/
def argc : Jvm.Term → Nat
  | .sub _ r => argc r + 1
  | _ => 0
def tyE (u : Nat → Int) (n : Nat) (G : Fn) (L : Sc) : Jvm.Term → Int
  | .arg i => if kd u n i = 3 then 0 else if kd u n i = 4 then 1 else slT L (vl u n i)
  | .elem _ e => tyE u n G L e
  | .add (.arg i) _ => if kd u n i = 38 then 1 else 0
  | .rem _ _ => 1
  | .op2 .iand (.arg i) _ => if kd u n i = 18 then 0 else 1
  | .op2 .ixor (.arg i) _ => fnT G (vl u n i)
  | _ => 0
def nfE (u : Nat → Int) (n : Nat) (G : Fn) (L : Sc) : Jvm.Term → List Nat
  | .arg i => if kd u n i = 2 ∧ slt L (vl u n i) = -1 then [ps u n i] else []
  | .elem _ e => nfE u n G L e
  | .mul _ e => nfE u n G L e
  | .add _ p => nfE u n G L p
  | .div s e => nfE u n G L s ++ nfE u n G L e
  | .rem s p => nfE u n G L s ++ nfE u n G L p
  | .op2 .iand _ e => nfE u n G L e
  | .op2 .ior _ p => nfE u n G L p
  | .op2 .ixor (.arg i) as => (if fno G (vl u n i) = -1 ∨ ¬ (fnP G (vl u n i)).length = argc as then [ps u n i] else []) ++ nfE u n G L as
  | .sub a b => nfE u n G L a ++ nfE u n G L b
  | _ => []
/-- a wanted type -/
def wt (due ty p : Int) : List Int := if due = ty then [] else [p]
def tfE (u : Nat → Int) (n : Nat) (G : Fn) (L : Sc) : List Int → Jvm.Term → List Int
  | _, .elem _ e => tfE u n G L [] e
  | _, .mul _ e => tfE u n G L [] e ++ wt 0 (tyE u n G L e) (fstT u n e)
  | _, .add (.arg i) (.sub l r) =>
    if lvl (kd u n i) = 2 then tfE u n G L [] l ++ (tfE u n G L [] r ++ wt (tyE u n G L l) (tyE u n G L r) (fstT u n r))
    else tfE u n G L [] l ++ (wt (if kd u n i = 38 then 1 else 0) (tyE u n G L l) (fstT u n l) ++ (tfE u n G L [] r ++ wt (if kd u n i = 38 then 1 else 0) (tyE u n G L r) (fstT u n r)))
  | _, .div s e => tfE u n G L [] s ++ (wt 1 (tyE u n G L s) (fstT u n s) ++ (tfE u n G L [] e ++ wt 0 (tyE u n G L e) (fstT u n e)))
  | _, .rem s (.sub a b) => tfE u n G L [] s ++ (wt 1 (tyE u n G L s) (fstT u n s) ++ (tfE u n G L [] a ++ (wt 0 (tyE u n G L a) (fstT u n a) ++ (tfE u n G L [] b ++ wt 0 (tyE u n G L b) (fstT u n b)))))
  | _, .op2 .iand (.arg i) e => tfE u n G L [] e ++ wt (if kd u n i = 18 then 1 else 0) (tyE u n G L e) (fstT u n e)
  | _, .op2 .ior _ (.sub a b) => tfE u n G L [] a ++ (wt 1 (tyE u n G L a) (fstT u n a) ++ (tfE u n G L [] b ++ wt 1 (tyE u n G L b) (fstT u n b)))
  | _, .op2 .ixor (.arg i) as => tfE u n G L (fnP G (vl u n i)) as
  | ds, .sub e r => tfE u n G L [] e ++ ((match ds with
      | [] => []
      | d :: _ => wt d (tyE u n G L e) (fstT u n e)) ++ tfE u n G L ds.tail r)
  | _, _ => []
/-- the act of len, digits, sign -/
def oneA (k : Int) : Int := if k = 18 then 22 else if k = 11 then 24 else 25
def coE (u : Nat → Int) (n : Nat) (G : Fn) (L : Sc) : Jvm.Term → Nat → Ac
  | .arg i, _ => [if kd u n i = 3 then (7, vl u n i, 0) else if kd u n i = 4 then (8, (ps u n i : Int) + 1, vl u n i) else (9, slt L (vl u n i), 0)]
  | .elem _ e, pc => coE u n G L e pc
  | .mul (.arg i) e, pc => coE u n G L e pc ++ [(if kd u n i = 45 then 15 else 16, 0, 0)]
  | .add (.arg i) (.sub l r), pc =>
    if lvl (kd u n i) ≤ 1 then coE u n G L l pc ++ ((4, ((pc + (coE u n G L l pc).length + 1 + (coE u n G L r (pc + (coE u n G L l pc).length + 1)).length + 1 : Nat) : Int), if kd u n i = 20 then 1 else 0) :: (coE u n G L r (pc + (coE u n G L l pc).length + 1) ++ [(14, 0, 0)]))
    else if lvl (kd u n i) = 2 then coE u n G L l pc ++ (coE u n G L r (pc + (coE u n G L l pc).length) ++ [(18, kd u n i, tyE u n G L l)])
    else coE u n G L l pc ++ (coE u n G L r (pc + (coE u n G L l pc).length) ++ [(if kd u n i = 38 then 19 else 17, kd u n i, 0)])
  | .div s e, pc => coE u n G L s pc ++ (coE u n G L e (pc + (coE u n G L s pc).length) ++ [(20, 0, 0)])
  | .rem s p, pc => coE u n G L s pc ++ (coE u n G L p (pc + (coE u n G L s pc).length) ++ [(21, 0, 0)])
  | .op2 .iand (.arg i) e, pc => coE u n G L e pc ++ [(oneA (kd u n i), 0, 0)]
  | .op2 .ior _ p, pc => coE u n G L p pc ++ [(23, 0, 0)]
  | .op2 .ixor (.arg i) as, pc => coE u n G L as pc ++ [(5, fno G (vl u n i), 0)]
  | .sub a b, pc => coE u n G L a pc ++ coE u n G L b (pc + (coE u n G L a pc).length)
  | _, _ => []
/-- acts that stand from a place on -/
def AtC (v : Mem) : Nat → Ac → Prop
  | _, [] => True
  | pc, a :: l => (v 9 pc = a.1 ∧ v 10 pc = a.2.1 ∧ v 11 pc = a.2.2) ∧ AtC v (pc + 1) l
theorem AtC_app {v : Mem} : ∀ (a b : Ac) (pc : Nat), AtC v pc (a ++ b) ↔ AtC v pc a ∧ AtC v (pc + a.length) b := by
  intro a
  induction a with
  | nil => intro b pc; exact ⟨fun h => ⟨trivial, h⟩, fun h => h.2⟩
  | cons x a ih =>
    intro b pc
    have e : pc + 1 + a.length = pc + (x :: a).length := by rw [List.length_cons]; omega
    constructor
    · intro h
      have h2 := (ih b (pc + 1)).mp h.2
      rw [e] at h2
      exact ⟨⟨h.1, h2.1⟩, h2.2⟩
    · intro h
      refine ⟨h.1.1, (ih b (pc + 1)).mpr ⟨h.1.2, ?_⟩⟩
      rw [e]
      exact h.2
theorem AtC_same {v v' : Mem} : ∀ (a : Ac) (pc : Nat), (∀ c k, 9 ≤ c → c ≤ 11 → pc ≤ k → k < pc + a.length → v' c k = v c k) → AtC v pc a → AtC v' pc a := by
  intro a
  induction a with
  | nil => intro pc _ _; trivial
  | cons x a ih =>
    intro pc h q
    have l : (x :: a).length = a.length + 1 := List.length_cons
    refine ⟨?_, ih (pc + 1) (fun c k h1 h2 h3 h4 => h c k h1 h2 (by omega) (by omega)) q.2⟩
    rw [h 9 pc (by omega) (by omega) (Nat.le_refl _) (by omega), h 10 pc (by omega) (by omega) (Nat.le_refl _) (by omega), h 11 pc (by omega) (by omega) (Nat.le_refl _) (by omega)]
    exact q.1
/-- the least place of a fault of NAMES so far -/
def mn (x : Int) : List Nat → Int
  | [] => x
  | p :: l => mn (if x = -1 then (p : Int) else if (p : Int) < x then (p : Int) else x) l
/-- the first fault of TYPES -/
def ftF (x : Int) : List Int → Int
  | [] => x
  | p :: l => ftF (if x = -1 then p else x) l
theorem mn_app (a b : List Nat) : ∀ x, mn x (a ++ b) = mn (mn x a) b := by
  induction a with
  | nil => intro x; rfl
  | cons p a ih => intro x; exact ih _
theorem ftF_app (a b : List Int) : ∀ x, ftF x (a ++ b) = ftF (ftF x a) b := by
  induction a with
  | nil => intro x; rfl
  | cons p a ih => intro x; exact ih _
/-- what a walk leaves alone while it reads an E -/
def FrE (v v' : Mem) : Prop := (∀ c, (c < 8 ∨ 11 < c) → c ≠ 22 → v' c = v c) ∧ (∀ k, (k < 6 ∨ k = 7 ∨ (10 < k ∧ k < 14) ∨ 15 < k) → v' 22 k = v 22 k) ∧ v' 8 4 = v 8 4 ∧ ((∃ c : Nat, v 8 3 = c ∧ c ≤ 3100) → ∃ c : Nat, v' 8 3 = c ∧ c ≤ 3100)
theorem FrE.refl (v : Mem) : FrE v v := ⟨fun _ _ _ => rfl, fun _ _ => rfl, rfl, fun h => h⟩
theorem FrE.trans {v v1 v2 : Mem} (h : FrE v v1) (h' : FrE v1 v2) : FrE v v2 := ⟨fun c a b => (h'.1 c a b).trans (h.1 c a b), fun k hk => (h'.2.1 k hk).trans (h.2.1 k hk), h'.2.2.1.trans h.2.2.1, fun q => h'.2.2.2 (h.2.2.2 q)⟩
/-- what a walk puts out: in the first nothing; in the second acts, faults of NAMES and of TYPES -/
def OW (s : Int) (v v' : Mem) (a : Ac) (nf : List Nat) (tf : List Int) : Prop := (s = 0 → v' 8 = v 8 ∧ v' 9 = v 9 ∧ v' 10 = v 10 ∧ v' 11 = v 11 ∧ v' 22 8 = v 22 8 ∧ v' 22 9 = v 22 9) ∧
  (s = 1 → ∃ pc : Nat, v 8 3 = pc ∧ v' 8 3 = ((pc + a.length : Nat) : Int) ∧ AtC v' pc a ∧ (∀ c k, 9 ≤ c → c ≤ 11 → k < pc → v' c k = v c k) ∧ v' 22 8 = mn (v 22 8) nf ∧ v' 22 9 = ftF (v 22 9) tf)
theorem OW.trans {s : Int} {v v1 v2 : Mem} {a b : Ac} {nf nf' : List Nat} {tf tf' : List Int} (h : OW s v v1 a nf tf) (h' : OW s v1 v2 b nf' tf') : OW s v v2 (a ++ b) (nf ++ nf') (tf ++ tf') := by
  refine ⟨fun hs => ?_, fun hs => ?_⟩
  · obtain ⟨a1, a2, a3, a4, a5, a6⟩ := h.1 hs
    obtain ⟨b1, b2, b3, b4, b5, b6⟩ := h'.1 hs
    exact ⟨b1.trans a1, b2.trans a2, b3.trans a3, b4.trans a4, b5.trans a5, b6.trans a6⟩
  · obtain ⟨pc, a1, a2, a3, a4, a5, a6⟩ := h.2 hs
    obtain ⟨pc', b1, b2, b3, b4, b5, b6⟩ := h'.2 hs
    have e : pc' = pc + a.length := by omega
    subst e
    refine ⟨pc, a1, by rw [b2, List.length_append]; congr 1; omega, (AtC_app a b pc).mpr ⟨AtC_same a pc (fun c k h1 h2 h3 h4 => b4 c k h1 h2 h4) a3, b3⟩, fun c k h1 h2 h3 => (b4 c k h1 h2 (by omega)).trans (a4 c k h1 h2 h3), ?_, ?_⟩
    · rw [b5, a5, mn_app]
    · rw [b6, a6, ftF_app]
theorem OW.nil {s : Int} {v v' : Mem} (h1 : ∀ c, 8 ≤ c → c ≤ 11 → v' c = v c) (h2 : v' 22 8 = v 22 8) (h3 : v' 22 9 = v 22 9) (hc : s = 1 → ∃ pc : Nat, v 8 3 = pc) : OW s v v' [] [] [] := by
  refine ⟨fun _ => ⟨h1 8 (by omega) (by omega), h1 9 (by omega) (by omega), h1 10 (by omega) (by omega), h1 11 (by omega) (by omega), h2, h3⟩, fun hs => ?_⟩
  obtain ⟨pc, e⟩ := hc hs
  exact ⟨pc, e, by rw [h1 8 (by omega) (by omega), e]; rfl, trivial, fun c k a b _ => by rw [h1 c (by omega) b], h2, h3⟩
theorem OW.eq {s : Int} {v v' : Mem} {a b : Ac} {nf nf' : List Nat} {tf tf' : List Int} (h : OW s v v' a nf tf) (h1 : s = 1 → a = b) (h2 : s = 1 → nf = nf') (h3 : s = 1 → tf = tf') : OW s v v' b nf' tf' := by
  refine ⟨h.1, fun hs => ?_⟩
  have := h.2 hs
  rw [h1 hs, h2 hs, h3 hs] at this
  exact this
