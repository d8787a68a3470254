/-! The state behind the two constructors: 82 cells, all shapes and references fixed but the text of Words; weakest preconditions over it. -/
abbrev Mem : Type := Nat → Nat → Int
def shL : List (Nat × Nat) := [(9, 8), (2, 7), (103, 20), (102, 20), (102, 120), (102, 20), (102, 20), (102, 20), (1, 5), (101, 3100), (102, 3100), (102, 3100), (101, 3200), (0, 1), (101, 9011), (3, 13), (102, 4001), (102, 4001), (102, 4000), (102, 4000), (102, 4000), (102, 4000), (5, 16), (8, 8), (102, 3002), (102, 3002), (103, 3002), (103, 16), (6, 4), (103, 30), (102, 30), (4, 14), (7, 5), (102, 1440), (102, 1440), (102, 1440), (102, 12), (102, 12), (10, 82), (101, 3200), (101, 3200), (102, 20), (102, 20), (102, 20), (102, 20), (102, 20), (102, 120), (102, 120), (102, 120), (102, 300), (102, 300), (102, 300), (102, 300), (102, 300), (102, 300), (102, 300), (102, 300), (102, 3300), (102, 3300), (102, 3300), (102, 3300), (102, 3300), (102, 3300), (102, 31), (102, 31), (102, 31), (102, 1500), (102, 1500), (102, 1500), (102, 360), (102, 360), (102, 360), (102, 12), (102, 2001), (102, 2001), (102, 2001), (100, 2001), (101, 4000), (102, 4000), (101, 2000), (100, 360), (101, 12)]
def SH (c : Nat) : Nat × Nat := shL.getD c (0, 0)
def rfL : List (List Int) := [[12, 13, 15, 22, 31], [2, 3, 4, 5, 6, 7], [], [], [], [], [], [], [9, 10, 11], [], [], [], [], [14], [], [16, 17, 18, 19, 20, 21], [], [], [], [], [], [], [23, 1, 8, 28], [24, 25, 26, 27, -1], [], [], [], [], [29, 30], [], [], [1, 8, 13, 15, 32, 36, 37], [15, 33, 34, 35], [], [], [], [], [], [39, -1, 40, -1, -1, -1, -1, -1, -1, -1, -1, -1, -1, -1, 41, 42, 43, 44, 45, 46, 47, 48, -1, 49, 50, 51, 52, 53, 54, 55, 56, -1, 57, 58, 59, 60, 61, 62, -1, -1, -1, -1, -1, 63, 64, 65, -1, -1, -1, 66, 67, 68, -1, 69, 70, 71, 72, -1, -1, 73, 74, 75, 76, 77, 78, -1, -1, -1, -1, -1, -1, 79, -1, -1, -1, 80, 81], [], [], [], [], [], [], [], [], [], [], [], [], [], [], [], [], [], [], [], [], [], [], [], [], [], [], [], [], [], [], [], [], [], [], [], [], [], [], [], [], [], [], []]
def RF (t : Int) (c k : Nat) : Int := bif Nat.beq c 23 then ([24, 25, 26, 27, t].getD k (-1)) else (rfL.getD c []).getD k (-1)
def nSl : Nat := 112443
def sg (t : Int) (v : Mem) : Sg := (82, nSl, SH, RF t, v)
def rvOf (y : Nat) (x : Int) : List AV := match (mi y).2.2.1 with
  | 9 => []
  | 1 => [(1, x)]
  | _ => [(0, x)]
/-- from here the method comes to a return, with an answer and a memory that Q tells -/
def LL (t : Int) (d y pc : Nat) (L S : List AV) (v : Mem) (Q : Int → Mem → Prop) : Prop := ∃ (x : Int) (v' : Mem), xR d y pc L S (sg t v) = some (rvOf y x, sg t v') ∧ Q x v'
def RR (t : Int) (d y : Nat) (as : List AV) (v : Mem) (Q : Int → Mem → Prop) : Prop := LL t d y 0 (entL y as) [] v Q
theorem LL.imp {t : Int} {d y pc : Nat} {L S : List AV} {v : Mem} {Q Q' : Int → Mem → Prop} (h : LL t d y pc L S v Q) (hq : ∀ x v', Q x v' → Q' x v') : LL t d y pc L S v Q' := by
  obtain ⟨x, v', h1, h2⟩ := h
  exact ⟨x, v', h1, hq x v' h2⟩
theorem RR.imp {t : Int} {d y : Nat} {as : List AV} {v : Mem} {Q Q' : Int → Mem → Prop} (h : RR t d y as v Q) (hq : ∀ x v', Q x v' → Q' x v') : RR t d y as v Q' := LL.imp h hq
theorem xr_deep {d y pc : Nat} {L S : List AV} {σ : Sg} {r : St} (h : xr d y pc L S σ = some r) (k : Nat) : xr (d + k) y pc L S σ = some r := by
  obtain ⟨f, hf⟩ := x_some.mp h
  refine x_some.mpr ⟨f, ?_⟩
  induction k with
  | zero => exact hf
  | succ k ih => exact run_deep1 _ _ _ _ _ _ _ _ ih
theorem LL.deep {t : Int} {d y pc : Nat} {L S : List AV} {v : Mem} {Q : Int → Mem → Prop} (h : LL t d y pc L S v Q) {d' : Nat} (hd : d ≤ d') : LL t d' y pc L S v Q := by
  obtain ⟨k, rfl⟩ := Nat.exists_eq_add_of_le hd
  obtain ⟨x, v', h1, h2⟩ := h
  refine ⟨x, v', ?_, h2⟩
  unfold xR at h1 ⊢
  cases hx : xr d y pc L S (sg t v) with
  | none => rw [hx] at h1; cases h1
  | some r => rw [hx] at h1; rw [xr_deep hx k]; exact h1
theorem RR.deep {t : Int} {d y : Nat} {as : List AV} {v : Mem} {Q : Int → Mem → Prop} (h : RR t d y as v Q) {d' : Nat} (hd : d ≤ d') : RR t d' y as v Q := LL.deep h hd
theorem LL.weak {t : Int} {d y pc : Nat} {L L' S : List AV} {v : Mem} {Q : Int → Mem → Prop} (hl : Lle L L') (h : LL t d y pc L S v Q) : LL t d y pc L' S v Q := by
  obtain ⟨x, v', h1, h2⟩ := h
  refine ⟨x, v', ?_, h2⟩
  unfold xR at h1 ⊢
  cases hx : xr d y pc L S (sg t v) with
  | none => rw [hx] at h1; cases h1
  | some r =>
    rw [hx] at h1
    obtain ⟨f, hf⟩ := x_some.mp hx
    obtain ⟨L1, hL⟩ := run_loc f d y pc L L' S _ r hl hf
    rw [x_some.mpr ⟨f, hL⟩]
    exact h1
def cutOf (cut : List (Nat × List Nat)) (pc : Nat) : Option (List Nat) := match cut with
  | [] => none
  | q :: cut => bif Nat.beq q.1 pc then some q.2 else cutOf cut pc
def mask (ds : List Nat) (L : List AV) : List AV := match ds with
  | [] => L
  | k :: ds => mask ds (L.set k (3, 0))
theorem mask_le (ds : List Nat) (L : List AV) : Lle (mask ds L) L := by
  induction ds generalizing L with
  | nil => exact Lle.refl L
  | cons k ds ih =>
    obtain ⟨h1, h2⟩ := ih (L.set k (3, 0))
    refine ⟨by rw [List.length_set] at h1; exact h1, fun i q hq => ?_⟩
    rcases h2 i q hq with h | h
    · exact Or.inl h
    · rw [List.getElem?_set] at h
      by_cases hk : k = i
      · rw [if_pos hk] at h
        split at h
        · cases h; exact Or.inl rfl
        · cases h
      · rw [if_neg hk] at h
        exact Or.inr h
def brP (c : Jvm.ClassFile.Cond) (a b : Int) (X Y : Prop) : Prop := match c with
  | .eq => (a = b → X) ∧ (¬ a = b → Y)
  | .ne => (a = b → Y) ∧ (¬ a = b → X)
  | .lt => (a < b → X) ∧ (¬ a < b → Y)
  | .ge => (a < b → Y) ∧ (¬ a < b → X)
  | .gt => (b < a → X) ∧ (¬ b < a → Y)
  | .le => (b < a → Y) ∧ (¬ b < a → X)
theorem brP_spec {c : Jvm.ClassFile.Cond} {a b : Int} {t f : Nat} {P : Nat → Prop} (h : brP c a b (P t) (P f)) : P (brc c a b t f) := by
  cases c <;> (unfold brP at h; unfold brc; dsimp only at h ⊢; split <;> rename_i hc <;> first | exact h.1 hc | exact h.2 hc)
def tswP (lo : Int) (ts : List Int) (dflt x : Int) (k : Nat → Prop) : Prop := match ts with
  | [] => k dflt.toNat
  | t :: ts => (x = lo → k t.toNat) ∧ (¬ x = lo → tswP (lo + 1) ts dflt x k)
theorem tswP_spec {ts : List Int} {dflt x : Int} {k : Nat → Prop} : ∀ {lo : Int}, tswP lo ts dflt x k → k (tsw lo ts dflt x).toNat := by
  induction ts with
  | nil => intro lo h; exact h
  | cons t ts ih =>
    intro lo h
    unfold tswP at h
    unfold tsw
    split
    · exact h.1 (by assumption)
    · exact ih (h.2 (by assumption))
def lswP (ps : List Int) (dflt x : Int) (k : Nat → Prop) : Prop := match ps with
  | a :: t :: ps => (x = a → k t.toNat) ∧ (¬ x = a → lswP ps dflt x k)
  | _ => k dflt.toNat
theorem lswP_spec {dflt x : Int} {k : Nat → Prop} : ∀ (n : Nat) (ps : List Int), ps.length ≤ n → lswP ps dflt x k → k (lsw ps dflt x).toNat := by
  intro n
  induction n with
  | zero =>
    intro ps hn h
    cases ps with
    | nil => exact h
    | cons a ps => cases hn
  | succ n ih =>
    intro ps hn h
    match ps, hn, h with
    | [], _, h => exact h
    | [a], _, h => exact h
    | a :: t :: ps, hn, h =>
      have h : (x = a → k t.toNat) ∧ (¬ x = a → lswP ps dflt x k) := h
      show k (if x = a then t else lsw ps dflt x).toNat
      split
      · exact h.1 (by assumption)
      · exact ih ps (by simp at hn; omega) (h.2 (by assumption))
def pureI (i : Instr) : Bool := match i with
  | .putfield _ => false
  | .iastore => false
  | .lastore => false
  | .bastore => false
  | .new _ => false
  | .newarray _ => false
  | .invokestatic _ => false
  | _ => true
def PU (σ : Sg) (o : Option St) : Prop := ∀ q, o = some q → q.2.2.2 = σ
theorem PU_n {σ : Sg} : PU σ none := fun q h => by cases h
theorem PU_s {σ : Sg} {pc : Nat} {L S : List AV} : PU σ (some (pc, L, S, σ)) := fun q h => by cases h; rfl
theorem PU_pI {σ : Sg} {pc : Nat} {L S : List AV} {a : Int} : PU σ (pI pc L S σ a) := PU_s
theorem PU_pJ {σ : Sg} {pc : Nat} {L S : List AV} {a : Int} : PU σ (pJ pc L S σ a) := PU_s
theorem PU_pR {σ : Sg} {pc : Nat} {L S : List AV} {a : Int} : PU σ (pR pc L S σ a) := PU_s
theorem PU_bI {σ : Sg} {S : List AV} {f : Int → List AV → Option St} (h : ∀ a S, PU σ (f a S)) : PU σ (bI S f) := fun q hq => by
  obtain ⟨a, S1, -, h1⟩ := bI_some hq
  exact h a S1 q h1
theorem PU_bJ {σ : Sg} {S : List AV} {f : Int → List AV → Option St} (h : ∀ a S, PU σ (f a S)) : PU σ (bJ S f) := fun q hq => by
  obtain ⟨a, S1, -, h1⟩ := bJ_some hq
  exact h a S1 q h1
theorem PU_bR {σ : Sg} {S : List AV} {f : Int → List AV → Option St} (h : ∀ a S, PU σ (f a S)) : PU σ (bR S f) := fun q hq => by
  obtain ⟨a, S1, -, h1⟩ := bR_some hq
  exact h a S1 q h1
theorem PU_bif {σ : Sg} {b : Bool} {o : Option St} (h : PU σ o) : PU σ (bif0 b o) := fun q hq => h q (bif0_some hq).2
theorem PU_g {σ : Sg} {p : Prop} [Decidable p] {o : Option St} (h : PU σ o) : PU σ (guardP p o) := fun q hq => h q (guardP_some hq).2
theorem PU_gv {σ : Sg} {L S : List AV} {pc k t : Nat} : PU σ (gvar L S σ pc k t) := fun q hq => by
  obtain ⟨a, -, rfl⟩ := gvar_some hq
  rfl
theorem PU_sv {σ : Sg} {L S : List AV} {pc k t : Nat} : PU σ (svar L S σ pc k t) := fun q hq => by
  by_cases ht : t = 1
  · subst ht
    obtain ⟨a, S1, L1, -, -, rfl⟩ := svar2_some hq
    rfl
  · obtain ⟨a, S1, L1, -, -, rfl⟩ := svar1_some ht hq
    rfl
theorem PU_cond {σ : Sg} {b : Bool} {x y : Option St} (h1 : PU σ x) (h2 : PU σ y) : PU σ (bif b then x else y) := by
  cases b with
  | true => exact h1
  | false => exact h2
theorem PU_gf {σ : Sg} {L S : List AV} {pc tg ci k : Nat} {a : Int} : PU σ (gfld L S σ pc tg ci k a) := by
  unfold gfld
  exact PU_cond PU_s PU_n
theorem stp_pure (i : Instr) (r : List Int) (pc : Nat) (L S : List AV) (σ : Sg) (hp : pureI i = true) : PU σ (stp nS sB i r pc L S σ) := by
  cases i <;> first | (cases hp; done) | ((unfold stp; dsimp only); repeat' (first | exact PU_n | exact PU_s | exact PU_pI | exact PU_pJ | exact PU_pR | exact PU_gv | exact PU_sv | exact PU_gf | (refine PU_bI (fun a S => ?_)) | (refine PU_bJ (fun a S => ?_)) | (refine PU_bR (fun a S => ?_)) | (refine PU_bif ?_) | (refine PU_g ?_) | (refine PU_cond ?_ ?_) | split))
/-- stores in one pass: the same as sto1, sto2, but cheap to reckon out -/
def setS : List AV → Nat → AV → List AV
  | [], _, _ => []
  | _ :: L, 0, q => q :: L
  | a :: L, k + 1, q => a :: setS L k q
def stoA : List AV → Nat → AV → List AV
  | [], _, _ => []
  | _ :: L, 0, q => q :: L
  | a :: L, 1, q => (bif Nat.beq a.1 1 then (3, 0) else a) :: stoA L 0 q
  | a :: L, k + 2, q => a :: stoA L (k + 1) q
theorem setS_eq (L : List AV) (k : Nat) (q : AV) : setS L k q = L.set k q := by
  induction L generalizing k with
  | nil => rfl
  | cons a L ih =>
    cases k with
    | zero => rfl
    | succ k =>
      show a :: setS L k q = a :: L.set k q
      rw [ih]
theorem stoA_eq (L : List AV) (k : Nat) (q : AV) : stoA L k q = (inv1 L k).set k q := by
  induction L generalizing k with
  | nil =>
    cases k with
    | zero => rfl
    | succ k => cases k <;> rfl
  | cons a L ih =>
    match k with
    | 0 => rfl
    | 1 =>
      show (bif Nat.beq a.1 1 then (3, 0) else a) :: stoA L 0 q = (bif Nat.beq a.1 1 then (a :: L).set 0 (3, 0) else a :: L).set 1 q
      rw [ih 0]
      cases Nat.beq a.1 1 <;> rfl
    | k + 2 =>
      show a :: stoA L (k + 1) q = _
      rw [ih (k + 1)]
      have e : inv1 (a :: L) (k + 2) = a :: inv1 L (k + 1) := by
        show (match (a :: L)[k + 1]? with | some z => bif Nat.beq z.1 1 then (a :: L).set (k + 1) (3, 0) else a :: L | none => a :: L) = a :: (match L[k]? with | some z => bif Nat.beq z.1 1 then L.set k (3, 0) else L | none => L)
        rw [List.getElem?_cons_succ]
        cases L[k]? with
        | none => rfl
        | some z =>
          dsimp only
          cases Nat.beq z.1 1 <;> rfl
      rw [e]
      rfl
def insS (L S : List AV) (v : Mem) (pc n t : Nat) (k : Nat → List AV → List AV → Mem → Prop) : Prop := match S with
  | q :: S => bif Nat.beq q.1 t && Nat.blt n L.length then k pc (stoA L n q) S v else False
  | [] => False
def insS2 (L S : List AV) (v : Mem) (pc n : Nat) (k : Nat → List AV → List AV → Mem → Prop) : Prop := match S with
  | q :: S => bif Nat.beq q.1 1 && Nat.blt (n + 1) L.length then k pc (setS (stoA L n q) (n + 1) (3, 0)) S v else False
  | [] => False
/-- one instruction that is no call -/
def ins (t : Int) (i : Instr) (r : List Int) (pc : Nat) (L S : List AV) (v : Mem) (k : Nat → List AV → List AV → Mem → Prop) : Prop := match i with
  | .istore_n n => insS L S v (pc + 1) n 0 k
  | .istore n => insS L S v (pc + 2) n 0 k
  | .astore_n n => insS L S v (pc + 1) n 2 k
  | .lstore_n n => insS2 L S v (pc + 1) n k
  | .lstore n => insS2 L S v (pc + 2) n k
  | .iinc n c => match ld L n 0 with
    | some a => k (pc + 3) (stoA L n (0, w32 (a + c))) S v
    | none => False
  | .ifCond c _ => match r with
    | [tg] => match S with
      | q :: S => bif Nat.beq q.1 0 then brP c q.2 0 (k tg.toNat L S v) (k (pc + 3) L S v) else False
      | _ => False
    | _ => False
  | .if_icmp c _ => match r with
    | [tg] => match S with
      | b :: a :: S => bif Nat.beq b.1 0 && Nat.beq a.1 0 then brP c a.2 b.2 (k tg.toNat L S v) (k (pc + 3) L S v) else False
      | _ => False
    | _ => False
  | .tableswitch .. => match r with
    | _ :: lo :: dflt :: ts => match S with
      | q :: S => bif Nat.beq q.1 0 then tswP lo ts dflt q.2 (fun p => k p L S v) else False
      | _ => False
    | _ => False
  | .lookupswitch .. => match r with
    | _ :: dflt :: ps => match S with
      | q :: S => bif Nat.beq q.1 0 then lswP ps dflt q.2 (fun p => k p L S v) else False
      | _ => False
    | _ => False
  | .iaload => match S with
    | j :: a :: S => bif Nat.beq j.1 0 && Nat.beq a.1 2 && isC (sg t v) a.2 102 then inB j.2 (clen (sg t v) a.2.toNat) ∧ k (pc + 1) L ((0, v a.2.toNat j.2.toNat) :: S) v else False
    | _ => False
  | .laload => match S with
    | j :: a :: S => bif Nat.beq j.1 0 && Nat.beq a.1 2 && isC (sg t v) a.2 103 then inB j.2 (clen (sg t v) a.2.toNat) ∧ k (pc + 1) L ((1, v a.2.toNat j.2.toNat) :: S) v else False
    | _ => False
  | .baload => match S with
    | j :: a :: S => bif Nat.beq j.1 0 && Nat.beq a.1 2 then (match bytOf nS a.2 with
      | some t => inB j.2 ((sB.getD t []).length : Nat) ∧ k (pc + 1) L ((0, (sB.getD t []).getD j.2.toNat 0) :: S) v
      | none => bif isC (sg t v) a.2 100 || isC (sg t v) a.2 101 then inB j.2 (clen (sg t v) a.2.toNat) ∧ k (pc + 1) L ((0, v a.2.toNat j.2.toNat) :: S) v else False) else False
    | _ => False
  | .iastore => match S with
    | x :: j :: a :: S => bif Nat.beq x.1 0 && Nat.beq j.1 0 && Nat.beq a.1 2 && isC (sg t v) a.2 102 then inB j.2 (clen (sg t v) a.2.toNat) ∧ k (pc + 1) L S (up v a.2.toNat j.2.toNat x.2) else False
    | _ => False
  | .lastore => match S with
    | x :: j :: a :: S => bif Nat.beq x.1 1 && Nat.beq j.1 0 && Nat.beq a.1 2 && isC (sg t v) a.2 103 then inB j.2 (clen (sg t v) a.2.toNat) ∧ k (pc + 1) L S (up v a.2.toNat j.2.toNat x.2) else False
    | _ => False
  | .bastore => match S with
    | x :: j :: a :: S => bif Nat.beq x.1 0 && Nat.beq j.1 0 && Nat.beq a.1 2 then (bif isC (sg t v) a.2 101 then inB j.2 (clen (sg t v) a.2.toNat) ∧ k (pc + 1) L S (up v a.2.toNat j.2.toNat (w8 x.2)) else
        bif isC (sg t v) a.2 100 then inB j.2 (clen (sg t v) a.2.toNat) ∧ (x.2 = 0 ∨ x.2 = 1) ∧ k (pc + 1) L S (up v a.2.toNat j.2.toNat x.2) else False) else False
    | _ => False
  | .idiv => match S with
    | b :: a :: S => bif Nat.beq b.1 0 && Nat.beq a.1 0 then b.2 ≠ 0 ∧ k (pc + 1) L ((0, w32 (a.2.tdiv b.2)) :: S) v else False
    | _ => False
  | .irem => match S with
    | b :: a :: S => bif Nat.beq b.1 0 && Nat.beq a.1 0 then b.2 ≠ 0 ∧ k (pc + 1) L ((0, a.2.tmod b.2) :: S) v else False
    | _ => False
  | .ldiv => match S with
    | b :: a :: S => bif Nat.beq b.1 1 && Nat.beq a.1 1 then b.2 ≠ 0 ∧ k (pc + 1) L ((1, w64 (a.2.tdiv b.2)) :: S) v else False
    | _ => False
  | .lrem => match S with
    | b :: a :: S => bif Nat.beq b.1 1 && Nat.beq a.1 1 then b.2 ≠ 0 ∧ k (pc + 1) L ((1, a.2.tmod b.2) :: S) v else False
    | _ => False
  | .putfield _ => match r with
    | [tg, ci, kk, _] => match S with
      | q :: a :: S => bif Nat.beq a.1 2 && isC (sg t v) a.2 ci.toNat then (match tg.toNat with
        | 0 => bif Nat.beq q.1 0 then k (pc + 3) L S (up v a.2.toNat kk.toNat q.2) else False
        | 1 => bif Nat.beq q.1 1 then k (pc + 3) L S (up v a.2.toNat kk.toNat q.2) else False
        | 4 => bif Nat.beq q.1 0 then (q.2 = 0 ∨ q.2 = 1) ∧ k (pc + 3) L S (up v a.2.toNat kk.toNat q.2) else False
        | _ => False) else False
      | _ => False
    | _ => False
  | .invokestatic _ => match r with
    | [-2] => match S with
      | n :: dp :: b :: sp :: a :: S => bif Nat.beq n.1 0 && Nat.beq dp.1 0 && Nat.beq b.1 2 && Nat.beq sp.1 0 && Nat.beq a.1 2 && isC (sg t v) a.2 101 && isC (sg t v) b.2 101 && decide (catS S ≤ 8) then (0 ≤ n.2 ∧ 0 ≤ sp.2 ∧ 0 ≤ dp.2 ∧ sp.2 + n.2 ≤ clen (sg t v) a.2.toNat ∧ dp.2 + n.2 ≤ clen (sg t v) b.2.toNat) ∧ k (pc + 3) L S (cpV v a.2.toNat sp.2.toNat b.2.toNat dp.2.toNat n.2.toNat) else False
      | _ => False
    | _ => False
  | i => bif pureI i then (match stp nS sB i r pc L S (sg t v) with
    | some q => k q.1 q.2.1 q.2.2.1 v
    | none => False) else False
def retP (rc : Nat) (i : Instr) (S : List AV) (v : Mem) (Q : Int → Mem → Prop) : Prop := match i with
  | .ireturn => match S with
    | [q] => bif Nat.beq q.1 0 then (match rc with
      | 0 => Q q.2 v
      | 4 => (q.2 = 0 ∨ q.2 = 1) ∧ Q q.2 v
      | 5 => (-128 ≤ q.2 ∧ q.2 < 128) ∧ Q q.2 v
      | 6 => (0 ≤ q.2 ∧ q.2 < 65536) ∧ Q q.2 v
      | _ => False) else False
    | _ => False
  | .lreturn => match S with
    | [q] => bif Nat.beq q.1 1 && Nat.beq rc 1 then Q q.2 v else False
    | _ => False
  | .return_ => match S with
    | [] => bif Nat.beq rc 9 then Q 0 v else False
    | _ => False
  | _ => False
def lkE (K : List En) (pc : Nat) : Option En := match K with
  | [] => none
  | e :: K => bif Nat.beq e.1 pc then some e else lkE K pc
theorem lkE_spec {K : List En} {pc p : Nat} {i : Instr} {r : List Int} (h : lkE K pc = some (p, i, r)) : p = pc ∧ lk K pc = some (i, r) := by
  induction K with
  | nil => cases h
  | cons e K ih =>
    have h : (bif Nat.beq e.1 pc then some e else lkE K pc) = some (p, i, r) := h
    show p = pc ∧ (bif Nat.beq e.1 pc then some e.2 else lk K pc) = some (i, r)
    cases hb : Nat.beq e.1 pc with
    | true =>
      rw [hb] at h
      have h : some e = some (p, i, r) := h
      cases h
      exact ⟨Nat.eq_of_beq_eq_true hb, rfl⟩
    | false =>
      rw [hb] at h
      exact ih h
def wp (t : Int) (K : List En) (cut : List (Nat × List Nat)) : Nat → Bool → Nat → Nat → Nat → List AV → List AV → Mem → (Int → Mem → Prop) → Prop
  | 0, _, _, _, _, _, _, _, _ => False
  | f + 1, cb, d, y, pc, L, S, v, Q => match (bif cb then cutOf cut pc else none) with
    | some ds => LL t d y pc (mask ds L) S v Q
    | none => match lkE K pc with
      | none => False
      | some (pc, i, r) => match isStop i r with
        | true => retP (mi y).2.2.1 i S v Q
        | false => match calleeOf i r with
          | some y' => match d with
            | 0 => False
            | d' + 1 => match popA (mi y').2.1.reverse S [] with
              | none => False
              | some (as, S') => match recvOk y' as (sg t v) && decide (catS S' ≤ 8) with
                | false => False
                | true => RR t d' y' as v (fun x v' => wp t K cut f true (d' + 1) y (pc + 3) L (rvOf y' x ++ S') v' Q)
          | none => ins t i r pc L S v (fun pc' L' S' v' => wp t K cut f true d y pc' L' S' v' Q)
theorem sg_put (t : Int) (v : Mem) (c k : Nat) (a : Int) : sPutV (sg t v) c k a = sg t (up v c k a) := rfl
theorem sg_cpy (t : Int) (v : Mem) (a b c d n : Nat) : sCpy (sg t v) a b c d n = sg t (cpV v a b c d n) := rfl
theorem beq0 {n k : Nat} (h : Nat.beq n k = true) : n = k := Nat.eq_of_beq_eq_true h
theorem bif_F {b : Bool} {X : Prop} (h : bif b then X else False) : b = true ∧ X := by
  cases b with
  | true => exact ⟨rfl, h⟩
  | false => exact h.elim
theorem ins_def {t : Int} {i : Instr} {r : List Int} {pc : Nat} {L S : List AV} {v : Mem} {k : Nat → List AV → List AV → Mem → Prop} (h : bif pureI i then (match stp nS sB i r pc L S (sg t v) with
    | some q => k q.1 q.2.1 q.2.2.1 v
    | none => False) else False) : ∃ pc' L' S' v', stp nS sB i r pc L S (sg t v) = some (pc', L', S', sg t v') ∧ k pc' L' S' v' := by
  obtain ⟨h1, h2⟩ := bif_F h
  cases hs : stp nS sB i r pc L S (sg t v) with
  | none => rw [hs] at h2; exact h2.elim
  | some q =>
    rw [hs] at h2
    obtain ⟨pc', L', S', σ'⟩ := q
    have h3 := stp_pure i r pc L S (sg t v) h1 _ hs
    dsimp only at h3
    subst h3
    exact ⟨pc', L', S', v, rfl, h2⟩
theorem gP {p : Prop} [Decidable p] {x : Option St} (h : p) : guardP p x = x := by unfold guardP; rw [if_pos h]
theorem b0 {b : Bool} {x : Option St} (h : b = true) : bif0 b x = x := by rw [h]; rfl
theorem insS_sound {t : Int} {L S : List AV} {v : Mem} {pc n tg : Nat} {k : Nat → List AV → List AV → Mem → Prop} (ht : Nat.beq tg 1 = false) (h : insS L S v pc n tg k) : ∃ pc' L' S' v', svar L S (sg t v) pc n tg = some (pc', L', S', sg t v') ∧ k pc' L' S' v' := by
  match S, h with
  | q :: S, h =>
    obtain ⟨h1, h2⟩ := bif_F h
    rw [Bool.and_eq_true] at h1
    refine ⟨pc, _, S, v, ?_, h2⟩
    show (bif Nat.beq q.1 tg then (match (bif Nat.beq tg 1 then sto2 L n q else sto1 L n q) with | some L => some (pc, L, S, sg t v) | none => none) else none) = _
    rw [h1.1, ht]
    show (match (bif Nat.blt n L.length then some ((inv1 L n).set n q) else none) with | some L => some (pc, L, S, sg t v) | none => none) = _
    rw [h1.2, stoA_eq]
    rfl
theorem insS2_sound {t : Int} {L S : List AV} {v : Mem} {pc n : Nat} {k : Nat → List AV → List AV → Mem → Prop} (h : insS2 L S v pc n k) : ∃ pc' L' S' v', svar L S (sg t v) pc n 1 = some (pc', L', S', sg t v') ∧ k pc' L' S' v' := by
  match S, h with
  | q :: S, h =>
    obtain ⟨h1, h2⟩ := bif_F h
    rw [Bool.and_eq_true] at h1
    refine ⟨pc, _, S, v, ?_, h2⟩
    show (bif Nat.beq q.1 1 then (match (bif Nat.blt (n + 1) L.length then some (((inv1 L n).set n q).set (n + 1) (3, 0)) else none) with | some L => some (pc, L, S, sg t v) | none => none) else none) = _
    rw [h1.1, h1.2, setS_eq, stoA_eq]
    rfl
theorem ins_sound {t : Int} {i : Instr} {r : List Int} {pc : Nat} {L S : List AV} {v : Mem} {k : Nat → List AV → List AV → Mem → Prop} (h : ins t i r pc L S v k) : ∃ pc' L' S' v', stp nS sB i r pc L S (sg t v) = some (pc', L', S', sg t v') ∧ k pc' L' S' v' := by
  cases i
  case istore_n n => exact insS_sound rfl h
  case istore n => exact insS_sound rfl h
  case astore_n n => exact insS_sound rfl h
  case lstore_n n => exact insS2_sound h
  case lstore n => exact insS2_sound h
  case iinc n c =>
    have h : (match ld L n 0 with | some a => k (pc + 3) (stoA L n (0, w32 (a + c))) S v | none => False) := h
    cases h1 : ld L n 0 with
    | none => rw [h1] at h; exact h.elim
    | some a =>
      rw [h1] at h
      refine ⟨_, _, S, v, ?_, h⟩
      show (match ld L n 0 with | some a => (match sto1 L n (0, w32 (a + c)) with | some L => some (pc + 3, L, S, sg t v) | none => none) | none => none) = _
      rw [h1]
      have hn : n < L.length := (List.getElem?_eq_some_iff.mp (ld_some h1)).1
      have hb : Nat.blt n L.length = true := Nat.ble_eq_true_of_le hn
      show (match (bif Nat.blt n L.length then some ((inv1 L n).set n (0, w32 (a + c))) else none) with | some L => some (pc + 3, L, S, sg t v) | none => none) = _
      rw [hb, stoA_eq]
      rfl
  case ifCond c o =>
    match r, S, h with
    | [tg], (n, a) :: S, h =>
      obtain ⟨h1, h2⟩ := bif_F h
      have e := beq0 h1
      dsimp only at e
      subst e
      exact ⟨_, L, S, v, rfl, brP_spec (P := fun p => k p L S v) h2⟩
  case if_icmp c o =>
    match r, S, h with
    | [tg], (m, b) :: (n, a) :: S, h =>
      obtain ⟨h1, h2⟩ := bif_F h
      rw [Bool.and_eq_true] at h1
      have e := beq0 h1.1
      have e' := beq0 h1.2
      dsimp only at e e'
      subst e
      subst e'
      exact ⟨_, L, S, v, rfl, brP_spec (P := fun p => k p L S v) h2⟩
  case tableswitch =>
    match r, S, h with
    | _ :: lo :: dflt :: ts, (n, a) :: S, h =>
      obtain ⟨h1, h2⟩ := bif_F h
      have e := beq0 h1
      dsimp only at e
      subst e
      exact ⟨_, L, S, v, rfl, tswP_spec (k := fun p => k p L S v) h2⟩
  case lookupswitch =>
    match r, S, h with
    | _ :: dflt :: ps, (n, a) :: S, h =>
      obtain ⟨h1, h2⟩ := bif_F h
      have e := beq0 h1
      dsimp only at e
      subst e
      exact ⟨_, L, S, v, rfl, lswP_spec (k := fun p => k p L S v) _ ps (Nat.le_refl _) h2⟩
  case iaload =>
    match S, h with
    | (m, j) :: (n, a) :: S, h =>
      obtain ⟨h1, h2, h3⟩ := bif_F h
      rw [Bool.and_eq_true, Bool.and_eq_true] at h1
      have e := beq0 h1.1.1
      have e' := beq0 h1.1.2
      dsimp only at e e'
      subst e
      subst e'
      refine ⟨_, L, _, v, ?_, h3⟩
      show bif0 (isC (sg t v) a 102) (guardP (inB j (clen (sg t v) a.toNat)) _) = _
      rw [b0 h1.2, gP h2]
      rfl
  case laload =>
    match S, h with
    | (m, j) :: (n, a) :: S, h =>
      obtain ⟨h1, h2, h3⟩ := bif_F h
      rw [Bool.and_eq_true, Bool.and_eq_true] at h1
      have e := beq0 h1.1.1
      have e' := beq0 h1.1.2
      dsimp only at e e'
      subst e
      subst e'
      refine ⟨_, L, _, v, ?_, h3⟩
      show bif0 (isC (sg t v) a 103) (guardP (inB j (clen (sg t v) a.toNat)) _) = _
      rw [b0 h1.2, gP h2]
      rfl
  case baload =>
    match S, h with
    | (m, j) :: (n, a) :: S, h =>
      obtain ⟨h1, h2⟩ := bif_F h
      rw [Bool.and_eq_true] at h1
      have e := beq0 h1.1
      have e' := beq0 h1.2
      dsimp only at e e' h2
      subst e
      subst e'
      cases hb : bytOf nS a with
      | some z =>
        rw [hb] at h2
        obtain ⟨h3, h4⟩ := h2
        refine ⟨_, L, _, v, ?_, h4⟩
        show (match bytOf nS a with | some z => guardP (inB j ((sB.getD z []).length : Nat)) (pI (pc + 1) L S (sg t v) ((sB.getD z []).getD j.toNat 0)) | none => _) = _
        rw [hb]
        dsimp only
        rw [gP h3]
        rfl
      | none =>
        rw [hb] at h2
        obtain ⟨h3, h4, h5⟩ := bif_F h2
        refine ⟨_, L, _, v, ?_, h5⟩
        show (match bytOf nS a with | some z => _ | none => bif0 (isC (sg t v) a 100 || isC (sg t v) a 101) (guardP (inB j (clen (sg t v) a.toNat)) (pI (pc + 1) L S (sg t v) ((sg t v).2.2.2.2 a.toNat j.toNat)))) = _
        rw [hb]
        dsimp only
        rw [b0 h3, gP h4]
        rfl
  case iastore =>
    match S, h with
    | (l, x) :: (m, j) :: (n, a) :: S, h =>
      obtain ⟨h1, h2, h3⟩ := bif_F h
      rw [Bool.and_eq_true, Bool.and_eq_true, Bool.and_eq_true] at h1
      have e := beq0 h1.1.1.1
      have e' := beq0 h1.1.1.2
      have e'' := beq0 h1.1.2
      dsimp only at e e' e''
      subst e
      subst e'
      subst e''
      refine ⟨_, L, _, _, ?_, h3⟩
      show bif0 (isC (sg t v) a 102) (guardP (inB j (clen (sg t v) a.toNat)) _) = _
      rw [b0 h1.2, gP h2]
      rfl
  case lastore =>
    match S, h with
    | (l, x) :: (m, j) :: (n, a) :: S, h =>
      obtain ⟨h1, h2, h3⟩ := bif_F h
      rw [Bool.and_eq_true, Bool.and_eq_true, Bool.and_eq_true] at h1
      have e := beq0 h1.1.1.1
      have e' := beq0 h1.1.1.2
      have e'' := beq0 h1.1.2
      dsimp only at e e' e''
      subst e
      subst e'
      subst e''
      refine ⟨_, L, _, _, ?_, h3⟩
      show bif0 (isC (sg t v) a 103) (guardP (inB j (clen (sg t v) a.toNat)) _) = _
      rw [b0 h1.2, gP h2]
      rfl
  case bastore =>
    match S, h with
    | (l, x) :: (m, j) :: (n, a) :: S, h =>
      obtain ⟨h1, h2⟩ := bif_F h
      rw [Bool.and_eq_true, Bool.and_eq_true] at h1
      have e := beq0 h1.1.1
      have e' := beq0 h1.1.2
      have e'' := beq0 h1.2
      dsimp only at e e' e'' h2
      subst e
      subst e'
      subst e''
      cases hc : isC (sg t v) a 101 with
      | true =>
        rw [hc] at h2
        obtain ⟨h3, h4⟩ : inB j (clen (sg t v) a.toNat) ∧ _ := h2
        refine ⟨_, L, _, _, ?_, h4⟩
        show (bif isC (sg t v) a 101 then guardP (inB j (clen (sg t v) a.toNat)) _ else _) = _
        rw [hc]
        show guardP (inB j (clen (sg t v) a.toNat)) _ = _
        rw [gP h3]
        rfl
      | false =>
        rw [hc] at h2
        obtain ⟨h3, h4, h5, h6⟩ := bif_F h2
        refine ⟨_, L, _, _, ?_, h6⟩
        show (bif isC (sg t v) a 101 then _ else bif0 (isC (sg t v) a 100) (guardP (inB j (clen (sg t v) a.toNat)) (guardP (x = 0 ∨ x = 1) _))) = _
        rw [hc]
        show bif0 (isC (sg t v) a 100) (guardP (inB j (clen (sg t v) a.toNat)) (guardP (x = 0 ∨ x = 1) _)) = _
        rw [b0 h3, gP h4, gP h5]
        rfl
  case idiv =>
    match S, h with
    | (m, b) :: (n, a) :: S, h =>
      obtain ⟨h1, h2, h3⟩ := bif_F h
      rw [Bool.and_eq_true] at h1
      have e := beq0 h1.1
      have e' := beq0 h1.2
      dsimp only at e e' h2
      subst e
      subst e'
      refine ⟨_, L, _, v, ?_, h3⟩
      show guardP (b ≠ 0) _ = _
      rw [gP h2]
      rfl
  case irem =>
    match S, h with
    | (m, b) :: (n, a) :: S, h =>
      obtain ⟨h1, h2, h3⟩ := bif_F h
      rw [Bool.and_eq_true] at h1
      have e := beq0 h1.1
      have e' := beq0 h1.2
      dsimp only at e e' h2
      subst e
      subst e'
      refine ⟨_, L, _, v, ?_, h3⟩
      show guardP (b ≠ 0) _ = _
      rw [gP h2]
      rfl
  case ldiv =>
    match S, h with
    | (m, b) :: (n, a) :: S, h =>
      obtain ⟨h1, h2, h3⟩ := bif_F h
      rw [Bool.and_eq_true] at h1
      have e := beq0 h1.1
      have e' := beq0 h1.2
      dsimp only at e e' h2
      subst e
      subst e'
      refine ⟨_, L, _, v, ?_, h3⟩
      show guardP (b ≠ 0) _ = _
      rw [gP h2]
      rfl
  case lrem =>
    match S, h with
    | (m, b) :: (n, a) :: S, h =>
      obtain ⟨h1, h2, h3⟩ := bif_F h
      rw [Bool.and_eq_true] at h1
      have e := beq0 h1.1
      have e' := beq0 h1.2
      dsimp only at e e' h2
      subst e
      subst e'
      refine ⟨_, L, _, v, ?_, h3⟩
      show guardP (b ≠ 0) _ = _
      rw [gP h2]
      rfl
  case putfield o =>
    match r, S, h with
    | [tg, ci, kk, z], (m, x) :: (n, a) :: S, h =>
      obtain ⟨h1, h2⟩ := bif_F h
      rw [Bool.and_eq_true] at h1
      have e := beq0 h1.1
      have hc := h1.2
      dsimp only at e hc h2
      subst e
      have hp : stp nS sB (.putfield o) [tg, ci, kk, z] pc L ((m, x) :: (2, a) :: S) (sg t v) = (match tg.toNat with
        | 0 => bif Nat.beq m 0 then some (pc + 3, L, S, sPutV (sg t v) a.toNat kk.toNat x) else none
        | 1 => bif Nat.beq m 1 then some (pc + 3, L, S, sPutV (sg t v) a.toNat kk.toNat x) else none
        | 2 => bif Nat.beq m 2 && decide (-1 ≤ x) then some (pc + 3, L, S, sPutR (sg t v) a.toNat kk.toNat x) else none
        | _ => bif Nat.beq m 0 then (if x = 0 ∨ x = 1 then some (pc + 3, L, S, sPutV (sg t v) a.toNat kk.toNat x) else none) else none) := by
        show pfld L S (sg t v) (pc + 3) tg.toNat ci.toNat kk.toNat (m, x) a = _
        unfold pfld
        rw [hc]
        rfl
      rw [hp]
      generalize tg.toNat = g at h2 ⊢
      match g, h2 with
      | 0, h2 =>
        obtain ⟨h3, h4⟩ := bif_F h2
        rw [h3]
        exact ⟨_, L, S, _, rfl, h4⟩
      | 1, h2 =>
        obtain ⟨h3, h4⟩ := bif_F h2
        rw [h3]
        exact ⟨_, L, S, _, rfl, h4⟩
      | 4, h2 =>
        obtain ⟨h3, h4, h5⟩ := bif_F h2
        rw [h3]
        exact ⟨_, L, S, _, if_pos h4, h5⟩
      | 2, h2 => exact h2.elim
      | 3, h2 => exact h2.elim
      | _ + 5, h2 => exact h2.elim
  case invokestatic o =>
    match r, S, h with
    | [-2], (g1, n) :: (g2, dp) :: (g3, b) :: (g4, sp) :: (g5, a) :: S, h =>
      obtain ⟨h1, h2, h3⟩ := bif_F h
      simp only [Bool.and_eq_true] at h1
      obtain ⟨⟨⟨⟨⟨⟨⟨c1, c2⟩, c3⟩, c4⟩, c5⟩, c6⟩, c7⟩, c8⟩ := h1
      have e1 := beq0 c1
      have e2 := beq0 c2
      have e3 := beq0 c3
      have e4 := beq0 c4
      have e5 := beq0 c5
      subst e1
      subst e2
      subst e3
      subst e4
      subst e5
      refine ⟨_, L, _, _, ?_, h3⟩
      show bif0 (isC (sg t v) a 101 && isC (sg t v) b 101 && decide (catS S ≤ 8)) (guardP (0 ≤ n ∧ 0 ≤ sp ∧ 0 ≤ dp ∧ sp + n ≤ clen (sg t v) a.toNat ∧ dp + n ≤ clen (sg t v) b.toNat) _) = _
      rw [b0 (by rw [Bool.and_eq_true, Bool.and_eq_true]; exact ⟨⟨c6, c7⟩, c8⟩), gP h2]
      rfl
  all_goals exact ins_def h
theorem retP_sound {y pc : Nat} {i : Instr} {r : List Int} {S : List AV} {v : Mem} {Q : Int → Mem → Prop} (hk : lk (cod y) pc = some (i, r)) (h : retP (mi y).2.2.1 i S v Q) : ∃ x, retV y pc S = some (rvOf y x) ∧ Q x v := by
  unfold retV rvOf
  rw [hk]
  generalize (mi y).2.2.1 = rc at h ⊢
  unfold retP at h
  split at h
  · split at h
    · rename_i q
      obtain ⟨n, a⟩ := q
      obtain ⟨h1, h2⟩ := bif_F h
      have e := beq0 h1
      dsimp only at e
      subst e
      dsimp only
      unfold retI
      split at h2
      · exact ⟨a, rfl, h2⟩
      · exact ⟨a, if_pos h2.1, h2.2⟩
      · exact ⟨a, if_pos h2.1, h2.2⟩
      · exact ⟨a, if_pos h2.1, h2.2⟩
      · exact h2.elim
    · exact h.elim
  · split at h
    · rename_i q
      obtain ⟨n, a⟩ := q
      obtain ⟨h1, h2⟩ := bif_F h
      rw [Bool.and_eq_true] at h1
      have e := beq0 h1.1
      have e' := beq0 h1.2
      dsimp only at e e'
      subst e
      subst e'
      exact ⟨a, rfl, h2⟩
    · exact h.elim
  · split at h
    · obtain ⟨h1, h2⟩ := bif_F h
      have e' := beq0 h1
      subst e'
      exact ⟨0, rfl, h2⟩
    · exact h.elim
  · exact h.elim
theorem wp_sound {t : Int} {K : List En} {cut : List (Nat × List Nat)} : ∀ {f : Nat} {cb : Bool} {d y pc : Nat} {L S : List AV} {v : Mem} {Q : Int → Mem → Prop}, cod y = K → wp t K cut f cb d y pc L S v Q → LL t d y pc L S v Q := by
  intro f
  induction f with
  | zero => intro cb d y pc L S v Q _ h; exact h.elim
  | succ f ih =>
    intro cb d y pc L S v Q hK h
    unfold wp at h
    split at h
    · exact LL.weak (mask_le _ _) h
    · split at h
      · exact h.elim
      · rename_i p i r hk0
        obtain ⟨hp0, hk⟩ := lkE_spec hk0
        subst hp0
        rw [← hK] at hk
        split at h
        · rename_i hs
          obtain ⟨x, h1, h2⟩ := retP_sound hk h
          refine ⟨x, v, ?_, h2⟩
          unfold xR
          rw [x_stop hk hs]
          show (retV y p S).map _ = _
          rw [h1]
          rfl
        · rename_i hs
          split at h
          · rename_i y' hc
            split at h
            · exact h.elim
            · rename_i d'
              split at h
              · exact h.elim
              · rename_i as S' hp
                split at h
                · exact h.elim
                · rename_i hr
                  obtain ⟨x, v', h1, h2⟩ := h
                  obtain ⟨x2, v2, h3, h4⟩ := ih hK h2
                  refine ⟨x2, v2, ?_, h4⟩
                  unfold xR at h3 ⊢
                  rw [x_call hk hs hc hp hr, h1]
                  exact h3
          · rename_i hc
            obtain ⟨pc', L', S', v', h1, h2⟩ := ins_sound h
            obtain ⟨x2, v2, h3, h4⟩ := ih hK h2
            refine ⟨x2, v2, ?_, h4⟩
            unfold xR at h3 ⊢
            rw [x_stp hk hs hc, h1]
            exact h3
