/-! The small machine and the JVM's own: what a state of the one is in the other. -/
abbrev EE : Type := (Nat → Nat) × (Nat → Nat) × Value
def cvR (E : EE) (ad : Nat → Nat) (a : Int) : Value := if 0 ≤ a then .ref (ad a.toNat) else if a = -1 then .null else match strOf nS a with
  | some j => .ref (E.1 j)
  | none => match bytOf nS a with
    | some j => .ref (E.2.1 j)
    | none => E.2.2
def cv (E : EE) (ad : Nat → Nat) (q : AV) : Value := match q.1 with
  | 0 => .int (Int32.ofInt q.2)
  | 1 => .long (Int64.ofInt q.2)
  | 2 => cvR E ad q.2
  | _ => .null
def rng (t : Nat) (a : Int) : Prop := match t with
  | 0 => -2147483648 ≤ a ∧ a < 2147483648
  | 1 => -9223372036854775808 ≤ a ∧ a < 9223372036854775808
  | 4 => a = 0 ∨ a = 1
  | 5 => -128 ≤ a ∧ a < 128
  | _ => False
def okA (n : Nat) (q : AV) : Prop := match q.1 with
  | 0 => -2147483648 ≤ q.2 ∧ q.2 < 2147483648
  | 1 => -9223372036854775808 ≤ q.2 ∧ q.2 < 9223372036854775808
  | 2 => q.2 < n
  | _ => True
def tgc (σ : Sg) (c k : Nat) : Nat := if (σ.2.2.1 c).1 < 100 then ft (σ.2.2.1 c).1 k else if (σ.2.2.1 c).1 = 100 then 4 else if (σ.2.2.1 c).1 = 101 then 5 else if (σ.2.2.1 c).1 = 102 then 0 else 1
def okS (σ : Sg) : Prop := ∀ c, c < σ.1 → ((σ.2.2.1 c).1 < 11 ∨ (100 ≤ (σ.2.2.1 c).1 ∧ (σ.2.2.1 c).1 < 104)) ∧ (σ.2.2.1 c).2 < 20000 ∧ ∀ k, (tgc σ c k = 2 → -1 ≤ σ.2.2.2.1 c k ∧ σ.2.2.2.1 c k < σ.1) ∧ (tgc σ c k ≠ 2 → rng (tgc σ c k) (σ.2.2.2.2 c k))
def fval (E : EE) (σ : Sg) (ad : Nat → Nat) (c t k : Nat) : Value := if t = 2 then cvR E ad (σ.2.2.2.1 c k) else if t = 1 then .long (Int64.ofInt (σ.2.2.2.2 c k)) else .int (Int32.ofInt (σ.2.2.2.2 c k))
def entE (cA : Nat → ClassId) (E : EE) (σ : Sg) (ad : Nat → Nat) (c : Nat) : va_E := if (σ.2.2.1 c).1 < 100 then .inr ((σ.2.2.1 c).1, (List.range (nN (σ.2.2.1 c).1)).map (fun k => fval E σ ad c (ft (σ.2.2.1 c).1 k) k))
  else if (σ.2.2.1 c).1 = 103 then .inl (cA 3, (σ.2.2.1 c).2, .inr (.inl (fun i => Int64.ofInt (σ.2.2.2.2 c i))))
  else .inl (cA ((σ.2.2.1 c).1 - 100), (σ.2.2.1 c).2, .inl (fun i => Int32.ofInt (σ.2.2.2.2 c i)))
def wsO (cA : Nat → ClassId) (E : EE) (σ : Sg) (ad : Nat → Nat) : va_W := (List.range σ.1).map (fun c => (ad c, entE cA E σ ad c))
def LR (E : EE) (ad : Nat → Nat) (nL : Nat) (ls : Array Slot) (L : List AV) : Prop := ls.size = nL ∧ L.length = nL ∧ lv_wf ls ∧ ∀ (i : Nat) (q : AV), L[i]? = some q → q.1 ≠ 3 → ls[i]? = some (.val (cv E ad q))
def vCl : List vw_C := (List.range 11).map (fun c => (Rn c, TT c, nN c))
def aTys (cA : Nat → ClassId) : List (ClassId × FieldType) := [(cA 0, .boolean), (cA 1, .byte), (cA 2, .int), (cA 3, .long)]
def tw : List Cond := lw_tbl.filter goodWord
def EV (G : va_G) (cA : Nat → ClassId) (E : EE) (A : Nat → Prop) (U : State) (H : Heap) : Prop :=
  va_K G vCl (aTys cA) U ∧ (∀ j : Nat, j < nS → va_O RJ0 (E.1 j) A U H ∧ va_OF RJ0 "coder" "B" (.int 0) (E.1 j) A U H ∧ va_OF RJ0 "value" "[B" (.ref (E.2.1 j)) (E.1 j) A U H ∧ va_T .byte (E.2.1 j) (sB.getD j []).length (fun i => .int (Int32.ofInt ((sB.getD j []).getD i 0))) A U H ∧ ∀ q, SR[j]? = some q → ∃ tx, vk_R (Rn q.1) q.2 tx (E.1 j) U) ∧
  va_Z RJ0 "COMPACT_STRINGS" "Z" (.int 1) A U H ∧ va_Z RJ3 "SIOOBE_FORMATTER" "Ljava/util/function/BiFunction;" E.2.2 A U H ∧ (E.2.2 = .null ∨ ∃ t, E.2.2 = .ref t)
theorem EV.moved {G : va_G} {cA : Nat → ClassId} {E : EE} {A : Nat → Prop} {u U : State} {H : Heap} (hW : u.WarmedH U.vm) (h : EV G cA E A u H) : EV G cA E A U H := by
  obtain ⟨h1, h2, h3, h4, h5⟩ := h
  refine ⟨h1.moved hW.alike, fun j hj => ?_, h3.moved hW.alike, h4.moved hW.alike, h5⟩
  obtain ⟨a1, a2, a3, a4, a5⟩ := h2 j hj
  refine ⟨a1.moved hW.alike, a2.moved hW.alike, a3.moved hW.alike, a4.moved hW.alike, fun q hq => ?_⟩
  obtain ⟨tx, hx⟩ := a5 q hq
  exact ⟨tx, hx.warm hW⟩
theorem EV.same {G : va_G} {cA : Nat → ClassId} {E : EE} {A : Nat → Prop} {u U : State} {H : Heap} (hv : U.vm = u.vm) (h : EV G cA E A u H) : EV G cA E A U H := by
  obtain ⟨h1, h2, h3, h4, h5⟩ := h
  have ha : u.vm.Alike U.vm := by rw [hv]; exact Vm.Alike.refl _
  refine ⟨h1.moved ha, fun j hj => ?_, h3.moved ha, h4.moved ha, h5⟩
  obtain ⟨a1, a2, a3, a4, a5⟩ := h2 j hj
  refine ⟨a1.moved ha, a2.moved ha, a3.moved ha, a4.moved ha, fun q hq => ?_⟩
  obtain ⟨tx, hx⟩ := a5 q hq
  exact ⟨tx, hx.same hv⟩
theorem EV.kept {G : va_G} {cA : Nat → ClassId} {E : EE} {A : Nat → Prop} {U : State} {H H1 : Heap} (h : EV G cA E A U H) (hq : ∀ a : Nat, a < H.size → ¬ A a → H1[a]? = H[a]?) : EV G cA E A U H1 := by
  obtain ⟨h1, h2, h3, h4, h5⟩ := h
  refine ⟨h1, fun j hj => ?_, h3.kept hq, h4.kept hq, h5⟩
  obtain ⟨a1, a2, a3, a4, a5⟩ := h2 j hj
  exact ⟨a1.kept hq, a2.kept hq, a3.kept hq, a4.kept hq, a5⟩
def REL (G : va_G) (cA : Nat → ClassId) (E : EE) (B0 : Nat → Prop) (H0 : Heap) (nL : Nat) (ad : Nat → Nat) (σ : Sg) (H : Heap) (locs : List Loc) (ls : Array Slot) (L S : List AV) : Prop :=
  va_P G vCl (wsO cA E σ ad) H ∧ va_D B0 (wsO cA E σ ad) ∧ va_S B0 H0 H locs ∧ LR E ad nL ls L ∧ okS σ ∧ (∀ q ∈ L, okA σ.1 q) ∧ (∀ q ∈ S, okA σ.1 q)
def CX (p : Program) (R : Room) (s : State) (m : MethodId) (args : Array Value) (meth : Method) (c : Code) (y d : Nat) (G : va_G) (cA : Nat → ClassId) (E : EE) (B0 : Nat → Prop) : Prop :=
  p.tables.exec = Jvm.exec ∧ c.code = bc y ∧ c.maxLocals = mL y ∧ s.vm.findClass (Rn (mi y).1) = some m.cls ∧ (∀ w ∈ tw, w.before args s = true) ∧ (isIn y = true → meth.name = "<init>") ∧ EV G cA E B0 s s.heap ∧ (∀ q, s.heap.size ≤ q → B0 q) ∧ d + 1 ≤ R.frames ∧ 28 * d + 60 ≤ R.locals
theorem tw_of {w : Cond} (h : w ∈ lw_tbl) (hg : goodWord w = true) : w ∈ tw := List.mem_filter.mpr ⟨h, hg⟩
theorem lk_mem {K : List En} {pc : Nat} {i : Instr} {r : List Int} (h : lk K pc = some (i, r)) : (pc, i, r) ∈ K := by
  induction K with
  | nil => cases h
  | cons e K ih =>
    unfold lk at h
    cases hb : Nat.beq e.1 pc with
    | true =>
      rw [hb] at h
      have h' : some e.2 = some (i, r) := h
      have h1 : e.1 = pc := Nat.eq_of_beq_eq_true hb
      have h2 := Option.some.inj h'
      have : e = (pc, i, r) := by rw [← h1, ← h2]
      rw [this]
      exact List.mem_cons_self
    | false =>
      rw [hb] at h
      exact List.mem_cons_of_mem _ (ih h)
theorem bI_some {S : List AV} {f : Int → List AV → Option St} {q : St} (h : bI S f = some q) : ∃ a S1, S = (0, a) :: S1 ∧ f a S1 = some q := by
  cases S with
  | nil => cases h
  | cons z S =>
    obtain ⟨t, a⟩ := z
    have h' : (bif Nat.beq t 0 then f a S else none) = some q := h
    cases hb : Nat.beq t 0 with
    | false => rw [hb] at h'; cases h'
    | true => rw [hb] at h'; have := Nat.eq_of_beq_eq_true hb; subst this; exact ⟨a, S, rfl, h'⟩
theorem bJ_some {S : List AV} {f : Int → List AV → Option St} {q : St} (h : bJ S f = some q) : ∃ a S1, S = (1, a) :: S1 ∧ f a S1 = some q := by
  cases S with
  | nil => cases h
  | cons z S =>
    obtain ⟨t, a⟩ := z
    have h' : (bif Nat.beq t 1 then f a S else none) = some q := h
    cases hb : Nat.beq t 1 with
    | false => rw [hb] at h'; cases h'
    | true => rw [hb] at h'; have := Nat.eq_of_beq_eq_true hb; subst this; exact ⟨a, S, rfl, h'⟩
theorem bR_some {S : List AV} {f : Int → List AV → Option St} {q : St} (h : bR S f = some q) : ∃ a S1, S = (2, a) :: S1 ∧ f a S1 = some q := by
  cases S with
  | nil => cases h
  | cons z S =>
    obtain ⟨t, a⟩ := z
    have h' : (bif Nat.beq t 2 then f a S else none) = some q := h
    cases hb : Nat.beq t 2 with
    | false => rw [hb] at h'; cases h'
    | true => rw [hb] at h'; have := Nat.eq_of_beq_eq_true hb; subst this; exact ⟨a, S, rfl, h'⟩
theorem bif0_some {b : Bool} {x : Option St} {q : St} (h : bif0 b x = some q) : b = true ∧ x = some q := by
  cases b with
  | false => cases h
  | true => exact ⟨rfl, h⟩
theorem guardP_some {p : Prop} [Decidable p] {x : Option St} {q : St} (h : guardP p x = some q) : p ∧ x = some q := by
  unfold guardP at h
  split at h
  · exact ⟨by assumption, h⟩
  · cases h
theorem isC_spec {σ : Sg} {a : Int} {kd : Nat} (h : isC σ a kd = true) : ∃ c : Nat, a = (c : Int) ∧ c < σ.1 ∧ (σ.2.2.1 c).1 = kd := by
  cases a with
  | negSucc n => cases h
  | ofNat c =>
    have h' : (Nat.blt c σ.1 && Nat.beq (σ.2.2.1 c).1 kd) = true := h
    rw [Bool.and_eq_true] at h'
    exact ⟨c, rfl, Nat.le_of_ble_eq_true h'.1, Nat.eq_of_beq_eq_true h'.2⟩
theorem cv_ref {E : EE} {ad : Nat → Nat} {c : Nat} : cv E ad (2, (c : Int)) = .ref (ad c) := by
  show cvR E ad (c : Int) = _
  unfold cvR
  rw [if_pos (Int.natCast_nonneg c), Int.toNat_natCast]
theorem cv_null {E : EE} {ad : Nat → Nat} : cv E ad (2, -1) = .null := rfl
theorem cvR_ext {E : EE} {ad ad1 : Nat → Nat} {n : Nat} {a : Int} (he : ∀ c, c < n → ad1 c = ad c) (ha : a < n) : cvR E ad1 a = cvR E ad a := by
  unfold cvR
  by_cases h : 0 ≤ a
  · rw [if_pos h, if_pos h, he _ (by omega)]
  · rw [if_neg h, if_neg h]
theorem cv_ext {E : EE} {ad ad1 : Nat → Nat} {n : Nat} {q : AV} (he : ∀ c, c < n → ad1 c = ad c) (hq : okA n q) : cv E ad1 q = cv E ad q := by
  obtain ⟨t, a⟩ := q
  match t, hq with
  | 0, _ => rfl
  | 1, _ => rfl
  | 2, hq => exact cvR_ext he hq
  | _ + 3, _ => rfl
theorem map_range_set {α : Type} {N k : Nat} {f g : Nat → α} (hk : k < N) (h : ∀ j, j ≠ k → j < N → g j = f j) : ((List.range N).map f).set k (g k) = (List.range N).map g := by
  apply List.ext_getElem?
  intro j
  rw [List.getElem?_set]
  by_cases hj : k = j
  · subst hj
    simp [hk]
  · rw [if_neg hj]
    simp only [List.getElem?_map, List.getElem?_range']
    by_cases hjN : j < N
    · simp [List.getElem?_range hjN, h j (Ne.symm hj) hjN]
    · simp [hjN]
theorem wsO_at {cA : Nat → ClassId} {E : EE} {σ : Sg} {ad : Nat → Nat} {c : Nat} (h : c < σ.1) : (wsO cA E σ ad)[c]? = some (ad c, entE cA E σ ad c) := by
  unfold wsO
  simp [List.getElem?_range h]
theorem wsO_set {cA : Nat → ClassId} {E : EE} {σ σ1 : Sg} {ad : Nat → Nat} {c : Nat} (hn : σ1.1 = σ.1) (hc : c < σ.1) (h : ∀ j, j ≠ c → j < σ.1 → entE cA E σ1 ad j = entE cA E σ ad j) : (wsO cA E σ ad).set c (ad c, entE cA E σ1 ad c) = wsO cA E σ1 ad := by
  unfold wsO
  rw [hn]
  exact map_range_set (f := fun c => (ad c, entE cA E σ ad c)) (g := fun c => (ad c, entE cA E σ1 ad c)) hc (fun j h1 h2 => by rw [h j h1 h2])
theorem entE_obj {cA : Nat → ClassId} {E : EE} {σ : Sg} {ad : Nat → Nat} {c ci : Nat} (h : (σ.2.2.1 c).1 = ci) (hci : ci < 11) : entE cA E σ ad c = .inr (ci, (List.range (nN ci)).map (fun k => fval E σ ad c (ft ci k) k)) := by
  unfold entE
  rw [h, if_pos (by omega)]
theorem entE_i {cA : Nat → ClassId} {E : EE} {σ : Sg} {ad : Nat → Nat} {c t : Nat} (h : (σ.2.2.1 c).1 = 100 + t) (ht : t < 3) : entE cA E σ ad c = .inl (cA t, (σ.2.2.1 c).2, .inl (fun i => Int32.ofInt (σ.2.2.2.2 c i))) := by
  unfold entE
  rw [h, if_neg (by omega), if_neg (by omega), Nat.add_sub_cancel_left]
theorem entE_l {cA : Nat → ClassId} {E : EE} {σ : Sg} {ad : Nat → Nat} {c : Nat} (h : (σ.2.2.1 c).1 = 103) : entE cA E σ ad c = .inl (cA 3, (σ.2.2.1 c).2, .inr (.inl (fun i => Int64.ofInt (σ.2.2.2.2 c i)))) := by
  unfold entE
  rw [h, if_neg (by omega), if_pos rfl]
theorem up_ne {v : Nat → Nat → Int} {c k : Nat} {a : Int} {c' : Nat} (h : c' ≠ c) : up v c k a c' = v c' := by
  funext k'
  unfold up
  rw [if_neg h]
theorem up_k {v : Nat → Nat → Int} {c k : Nat} {a : Int} : up v c k a c k = a := by
  unfold up
  rw [if_pos rfl, if_pos rfl]
theorem up_nk {v : Nat → Nat → Int} {c k k' : Nat} {a : Int} (h : k' ≠ k) : up v c k a c k' = v c k' := by
  unfold up
  rw [if_pos rfl, if_neg h]
theorem entE_putV {cA : Nat → ClassId} {E : EE} {σ : Sg} {ad : Nat → Nat} {c k j : Nat} {a : Int} (h : j ≠ c) : entE cA E (sPutV σ c k a) ad j = entE cA E σ ad j := by
  have hv : (sPutV σ c k a).2.2.2.2 j = σ.2.2.2.2 j := up_ne h
  unfold entE fval
  rw [hv]
  rfl
theorem entE_putR {cA : Nat → ClassId} {E : EE} {σ : Sg} {ad : Nat → Nat} {c k j : Nat} {a : Int} (h : j ≠ c) : entE cA E (sPutR σ c k a) ad j = entE cA E σ ad j := by
  have hv : (sPutR σ c k a).2.2.2.1 j = σ.2.2.2.1 j := up_ne h
  unfold entE fval
  rw [hv]
  rfl
theorem vCl_at {ci : Nat} (h : ci < 11) : vCl[ci]? = some (Rn ci, TT ci, nN ci) := by
  unfold vCl
  simp [List.getElem?_range h]
