/-! Calls, and runs of any length. -/
def GR (σ : Sg) (o : Option St) : Prop := ∀ q, o = some q → σ.1 ≤ q.2.2.2.1 ∧ σ.2.1 ≤ q.2.2.2.2.1
theorem GR_n {σ : Sg} : GR σ none := fun q h => by cases h
theorem GR_s {σ : Sg} {pc : Nat} {L S : List AV} {σ1 : Sg} (h1 : σ.1 ≤ σ1.1) (h2 : σ.2.1 ≤ σ1.2.1) : GR σ (some (pc, L, S, σ1)) := fun q h => by cases h; exact ⟨h1, h2⟩
theorem GR_e {σ : Sg} {pc : Nat} {L S : List AV} : GR σ (some (pc, L, S, σ)) := GR_s (Nat.le_refl _) (Nat.le_refl _)
theorem GR_pv {σ : Sg} {pc c k : Nat} {a : Int} {L S : List AV} : GR σ (some (pc, L, S, sPutV σ c k a)) := GR_s (Nat.le_refl _) (Nat.le_refl _)
theorem GR_pr {σ : Sg} {pc c k : Nat} {a : Int} {L S : List AV} : GR σ (some (pc, L, S, sPutR σ c k a)) := GR_s (Nat.le_refl _) (Nat.le_refl _)
theorem GR_cp {σ : Sg} {pc a b c d n : Nat} {L S : List AV} : GR σ (some (pc, L, S, sCpy σ a b c d n)) := GR_s (Nat.le_refl _) (Nat.le_refl _)
theorem GR_al {σ : Sg} {pc kd len : Nat} {L S : List AV} : GR σ (some (pc, L, S, sAlloc σ kd len)) := GR_s (Nat.le_succ _) (Nat.le_add_right _ _)
theorem GR_pI {σ : Sg} {pc : Nat} {L S : List AV} {a : Int} : GR σ (pI pc L S σ a) := GR_e
theorem GR_pJ {σ : Sg} {pc : Nat} {L S : List AV} {a : Int} : GR σ (pJ pc L S σ a) := GR_e
theorem GR_pR {σ : Sg} {pc : Nat} {L S : List AV} {a : Int} : GR σ (pR pc L S σ a) := GR_e
theorem GR_bI {σ : Sg} {S : List AV} {f : Int → List AV → Option St} (h : ∀ a S, GR σ (f a S)) : GR σ (bI S f) := fun q hq => by
  obtain ⟨a, S1, -, h1⟩ := bI_some hq
  exact h a S1 q h1
theorem GR_bJ {σ : Sg} {S : List AV} {f : Int → List AV → Option St} (h : ∀ a S, GR σ (f a S)) : GR σ (bJ S f) := fun q hq => by
  obtain ⟨a, S1, -, h1⟩ := bJ_some hq
  exact h a S1 q h1
theorem GR_bR {σ : Sg} {S : List AV} {f : Int → List AV → Option St} (h : ∀ a S, GR σ (f a S)) : GR σ (bR S f) := fun q hq => by
  obtain ⟨a, S1, -, h1⟩ := bR_some hq
  exact h a S1 q h1
theorem GR_bif {σ : Sg} {b : Bool} {o : Option St} (h : GR σ o) : GR σ (bif0 b o) := fun q hq => h q (bif0_some hq).2
theorem GR_g {σ : Sg} {p : Prop} [Decidable p] {o : Option St} (h : GR σ o) : GR σ (guardP p o) := fun q hq => h q (guardP_some hq).2
theorem GR_gv {σ : Sg} {L S : List AV} {pc k t : Nat} : GR σ (gvar L S σ pc k t) := fun q hq => by
  obtain ⟨a, -, rfl⟩ := gvar_some hq
  exact ⟨Nat.le_refl _, Nat.le_refl _⟩
theorem GR_sv {σ : Sg} {L S : List AV} {pc k t : Nat} : GR σ (svar L S σ pc k t) := fun q hq => by
  by_cases ht : t = 1
  · subst ht
    obtain ⟨a, S1, L1, -, -, rfl⟩ := svar2_some hq
    exact ⟨Nat.le_refl _, Nat.le_refl _⟩
  · obtain ⟨a, S1, L1, -, -, rfl⟩ := svar1_some ht hq
    exact ⟨Nat.le_refl _, Nat.le_refl _⟩
theorem GR_gf {σ : Sg} {L S : List AV} {pc tg ci k : Nat} {a : Int} : GR σ (gfld L S σ pc tg ci k a) := by
  unfold gfld
  cases isC σ a ci with
  | true => exact GR_e
  | false => exact GR_n
theorem GR_cond {σ : Sg} {b : Bool} {x y : Option St} (h1 : GR σ x) (h2 : GR σ y) : GR σ (bif b then x else y) := by
  cases b with
  | true => exact h1
  | false => exact h2
theorem GR_ite {σ : Sg} {p : Prop} [Decidable p] {x y : Option St} (h1 : GR σ x) (h2 : GR σ y) : GR σ (if p then x else y) := by
  split
  · exact h1
  · exact h2
theorem GR_pf {σ : Sg} {L S : List AV} {pc tg ci k : Nat} {q : AV} {a : Int} : GR σ (pfld L S σ pc tg ci k q a) := by
  unfold pfld
  refine GR_cond ?_ GR_n
  split
  · exact GR_cond GR_pv GR_n
  · exact GR_cond GR_pv GR_n
  · exact GR_cond GR_pr GR_n
  · exact GR_cond (GR_ite GR_pv GR_n) GR_n
theorem stp_grow (i : Instr) (r : List Int) (pc : Nat) (L S : List AV) (σ : Sg) : GR σ (stp nS sB i r pc L S σ) := by
  cases i <;> (unfold stp; dsimp only) <;> repeat' (first | exact GR_n | exact GR_e | exact GR_al | exact GR_pv | exact GR_cp | exact GR_pI | exact GR_pJ | exact GR_pR | exact GR_gv | exact GR_sv | exact GR_gf | exact GR_pf | (refine GR_bI (fun a S => ?_)) | (refine GR_bJ (fun a S => ?_)) | (refine GR_bR (fun a S => ?_)) | (refine GR_bif ?_) | (refine GR_g ?_) | (refine GR_cond ?_ ?_) | split)
theorem run_grow : ∀ (f d y pc : Nat) (L S : List AV) (σ : Sg) (q : St), run f d y pc L S σ = some q → σ.1 ≤ q.2.2.2.1 ∧ σ.2.1 ≤ q.2.2.2.2.1 := by
  intro f
  induction f with
  | zero => intro d y pc L S σ r h; cases h
  | succ f ih =>
    intro d y pc L S σ r h
    rw [run_succ] at h
    cases h1 : lk (cod y) pc with
    | none => rw [h1] at h; cases h
    | some e =>
      obtain ⟨i, rr⟩ := e
      rw [h1] at h
      dsimp only at h
      cases h2 : isStop i rr with
      | true => rw [h2] at h; cases h; exact ⟨Nat.le_refl _, Nat.le_refl _⟩
      | false =>
        rw [h2] at h
        dsimp only at h
        cases h3 : calleeOf i rr with
        | none =>
          rw [h3] at h
          dsimp only at h
          cases h4 : stp nS sB i rr pc L S σ with
          | none => rw [h4] at h; cases h
          | some q =>
            obtain ⟨pc', L', S', σ'⟩ := q
            rw [h4] at h
            have a1 := stp_grow i rr pc L S σ _ h4
            have a2 := ih _ _ _ _ _ _ _ h
            exact ⟨Nat.le_trans a1.1 a2.1, Nat.le_trans a1.2 a2.2⟩
        | some y' =>
          rw [h3] at h
          dsimp only at h
          cases d with
          | zero => cases h
          | succ d =>
            dsimp only at h
            cases h5 : popA (mi y').2.1.reverse S [] with
            | none => rw [h5] at h; cases h
            | some q =>
              obtain ⟨as, S'⟩ := q
              rw [h5] at h
              dsimp only at h
              cases h6 : (recvOk y' as σ && decide (catS S' ≤ 8)) with
              | false => rw [h6] at h; cases h
              | true =>
                rw [h6] at h
                dsimp only at h
                cases h7 : run f d y' 0 (entL y' as) [] σ with
                | none => rw [h7] at h; cases h
                | some q =>
                  obtain ⟨pc', L', S'', σ'⟩ := q
                  rw [h7] at h
                  dsimp only at h
                  cases h8 : retV y' pc' S'' with
                  | none => rw [h8] at h; cases h
                  | some rv =>
                    rw [h8] at h
                    have a1 := ih _ _ _ _ _ _ _ h7
                    have a2 := ih _ _ _ _ _ _ _ h
                    exact ⟨Nat.le_trans a1.1 a2.1, Nat.le_trans a1.2 a2.2⟩
theorem popA_spec {ts : List Nat} {S acc as S' : List AV} (h : popA ts S acc = some (as, S')) : ∃ bs : List AV, bs.map Prod.fst = ts.reverse ∧ as = bs ++ acc ∧ S = bs.reverse ++ S' := by
  induction ts generalizing S acc with
  | nil =>
    cases h
    exact ⟨[], rfl, rfl, rfl⟩
  | cons t ts ih =>
    cases S with
    | nil => cases h
    | cons q S =>
      have h : (bif Nat.beq q.1 t then popA ts S (q :: acc) else none) = some (as, S') := h
      cases hb : Nat.beq q.1 t with
      | false => rw [hb] at h; cases h
      | true =>
        rw [hb] at h
        obtain ⟨bs, h1, h2, h3⟩ := ih h
        refine ⟨bs ++ [q], ?_, ?_, ?_⟩
        · rw [List.map_append, h1, List.reverse_cons]
          show ts.reverse ++ [q.1] = _
          rw [Nat.eq_of_beq_eq_true hb]
        · rw [h2]; simp
        · rw [h3]; simp
def layN (ts : List Nat) : Nat := match ts with
  | [] => 0
  | t :: ts => (if t = 1 then 2 else 1) + layN ts
theorem layA_len (as : List AV) : (layA as).length = layN (as.map Prod.fst) := by
  induction as with
  | nil => rfl
  | cons a as ih =>
    unfold layA
    rw [List.map_cons]
    unfold layN
    cases hb : Nat.beq a.1 1 with
    | true =>
      rw [if_pos (Nat.eq_of_beq_eq_true hb)]
      show (layA as).length + 1 + 1 = _
      omega
    | false =>
      rw [if_neg (fun e1 => by rw [e1] at hb; cases hb)]
      show (layA as).length + 1 = _
      omega
theorem lay_sl {E : EE} (hE : E.2.2 = .null ∨ ∃ t, E.2.2 = .ref t) (ad : Nat → Nat) (as : List AV) : (lg_sl (as.map (cv E ad))).length = (layA as).length ∧ ∀ (i : Nat) (q : AV), (layA as)[i]? = some q → q.1 ≠ 3 → (lg_sl (as.map (cv E ad)))[i]? = some (Slot.val (cv E ad q)) := by
  induction as with
  | nil => exact ⟨rfl, fun i q h => by
    rw [show layA [] = [] from rfl, List.getElem?_nil] at h
    cases h⟩
  | cons a as ih =>
    have e0 : lg_sl ((a :: as).map (cv E ad)) = (if (cv E ad a).category = 2 then [Slot.val (cv E ad a), .second] else [.val (cv E ad a)]) ++ lg_sl (as.map (cv E ad)) := by
      unfold lg_sl
      rw [List.map_cons, List.flatMap_cons]
    cases hb : Nat.beq a.1 1 with
    | true =>
      have e1 : layA (a :: as) = a :: (3, 0) :: layA as := by
        rw [layA]
        rw [hb]
        rfl
      rw [e0, e1, if_pos (cv_cat2 (Nat.eq_of_beq_eq_true hb))]
      refine ⟨by show (lg_sl (as.map (cv E ad))).length + 1 + 1 = (layA as).length + 1 + 1; rw [ih.1], fun i q h h3 => ?_⟩
      match i, h with
      | 0, h => cases h; rfl
      | 1, h => cases h; exact absurd rfl h3
      | i + 2, h => exact ih.2 i q h h3
    | false =>
      have hc : (cv E ad a).category = 1 := cv_cat hE (fun e1 => by rw [e1] at hb; cases hb)
      have e1 : layA (a :: as) = a :: layA as := by
        rw [layA]
        rw [hb]
        rfl
      rw [e0, e1, if_neg (by rw [hc]; decide)]
      refine ⟨by show (lg_sl (as.map (cv E ad))).length + 1 = (layA as).length + 1; rw [ih.1], fun i q h h3 => ?_⟩
      match i, h with
      | 0, h => cases h; rfl
      | i + 1, h => exact ih.2 i q h h3
theorem entL_LR {E : EE} (hE : E.2.2 = .null ∨ ∃ t, E.2.2 = .ref t) (ad : Nat → Nat) {y : Nat} {as : List AV} (hlen : (layA as).length ≤ mL y) : LR E ad (mL y) ((lg_sl (as.map (cv E ad)) ++ List.replicate (mL y - (lg_sl (as.map (cv E ad))).length) Slot.unset).toArray) (entL y as) := by
  obtain ⟨h1, h2⟩ := lay_sl hE ad as
  have h3 := lv_entry (as.map (cv E ad)) (n := mL y) (by rw [h1]; exact hlen)
  refine ⟨h3.1, ?_, h3.2.1, fun i q hq hq3 => ?_⟩
  · unfold entL
    rw [List.length_append, List.length_replicate]
    show (layA as).length + (mL y - (layA as).length) = mL y
    omega
  · unfold entL at hq
    by_cases hi : i < (layA as).length
    · rw [List.getElem?_append_left hi] at hq
      have h4 := h2 i q hq hq3
      rw [List.getElem?_toArray, List.getElem?_append_left (by rw [h1]; exact hi)]
      exact h4
    · rw [List.getElem?_append_right (by omega)] at hq
      have h5 := List.mem_of_getElem? hq
      have h6 := List.eq_of_mem_replicate h5
      rw [h6] at hq3
      exact absurd rfl hq3
theorem entL_ok {n y : Nat} {as : List AV} (h : ∀ q ∈ as, okA n q) : ∀ q ∈ entL y as, okA n q := by
  intro q hq
  unfold entL at hq
  rcases List.mem_append.mp hq with h1 | h1
  · induction as with
    | nil => cases h1
    | cons a as ih =>
      rw [layA] at h1
      cases hb : Nat.beq a.1 1 with
      | true =>
        rw [hb] at h1
        rcases List.mem_cons.mp h1 with e | h1
        · rw [e]; exact h a List.mem_cons_self
        · rcases List.mem_cons.mp h1 with e | h1
          · rw [e]; exact trivial
          · exact ih (fun z hz => h z (List.mem_cons_of_mem _ hz)) (List.mem_append_left _ h1) h1
      | false =>
        rw [hb] at h1
        rcases List.mem_cons.mp h1 with e | h1
        · rw [e]; exact h a List.mem_cons_self
        · exact ih (fun z hz => h z (List.mem_cons_of_mem _ hz)) (List.mem_append_left _ h1) h1
  · rw [List.eq_of_mem_replicate h1]; exact trivial
set_option maxRecDepth 100000 in
theorem y_lay : ∀ y, y < nY → layN (mi y).2.1 ≤ mL y := by decide +kernel
set_option maxRecDepth 100000 in
theorem y_rt : ∀ y, y < nY → ((mi y).2.2.1 = 0 ∧ rt y = some .int) ∨ ((mi y).2.2.1 = 1 ∧ rt y = some .long) ∨ ((mi y).2.2.1 = 4 ∧ rt y = some .boolean) ∨ ((mi y).2.2.1 = 5 ∧ rt y = some .byte) ∨ ((mi y).2.2.1 = 6 ∧ rt y = some .char) ∨ ((mi y).2.2.1 = 9 ∧ rt y = none) := by decide +kernel
theorem nar_c {a : Int} (h1 : 0 ≤ a) (h2 : a < 65536) : narrow .char (.int (Int32.ofInt a)) = .int (Int32.ofInt a) := by
  show Value.int (Int32.ofInt a).toUInt32.toUInt16.toUInt32.toInt32 = _
  congr 1
  have h3 : (Int32.ofInt a).toUInt32.toUInt16.toUInt32 = (Int32.ofInt a).toUInt32 % 65536 := by
    apply UInt32.toNat_inj.mp
    rw [UInt32.toNat_mod]
    rfl
  rw [h3, i2c_ ⟨by omega, by omega⟩]
  congr 1
  unfold w16u
  omega
theorem nar_by {a : Int} (h1 : -128 ≤ a) (h2 : a < 128) : narrow .byte (.int (Int32.ofInt a)) = .int (Int32.ofInt a) := by
  show Value.int (Int32.ofInt a).toInt8.toInt32 = _
  rw [i2b_, w8_id h1 h2]
theorem nar_zz {a : Int} (h : a = 0 ∨ a = 1) : narrow .boolean (.int (Int32.ofInt a)) = .int (Int32.ofInt a) := by rcases h with rfl | rfl <;> rfl
def rmM (d n k : Nat) : Room := { frames := d + 1, cells := n, slots := k, locals := 28 * d + 60 }
def PcM (G : va_G) (cA : Nat → ClassId) (E : EE) (B0 : Nat → Prop) (ad : Nat → Nat) (as : List AV) (σ : Sg) : Array Value → State → Prop := fun v U => v = (as.map (cv E ad)).toArray ∧ EV G cA E B0 U U.heap ∧ (∀ q, U.heap.size ≤ q → B0 q) ∧ va_P G vCl (wsO cA E σ ad) U.heap ∧ va_D B0 (wsO cA E σ ad)
def QcM (G : va_G) (cA : Nat → ClassId) (E : EE) (B0 : Nat → Prop) (ad : Nat → Nat) (σ : Sg) (rv : List AV) (σ1 : Sg) : Array Value → State → Outcome → State → Prop := fun _ st o t => ∃ ad1 : Nat → Nat, (∀ c, c < σ.1 → ad1 c = ad c) ∧ o = .returned ((rv.map (cv E ad1)).head?) ∧ va_P G vCl (wsO cA E σ1 ad1) t.heap ∧ va_D B0 (wsO cA E σ1 ad1) ∧ va_F B0 st t
def wsM (y : Nat) : List Cond := Cond.code (yn y) (bc y) (mL y) (rt y) :: tw
theorem PcM.blind {G : va_G} {cA : Nat → ClassId} {E : EE} {B0 : Nat → Prop} {ad : Nat → Nat} {as : List AV} {σ : Sg} : FrameBlind (PcM G cA E B0 ad as σ) := by
  intro a U g mk h
  obtain ⟨h1, h2, h3, h4, h5⟩ := h
  exact ⟨h1, EV.same (u := U) rfl h2, h3, h4, h5⟩
def SND (l : Launch) (f : Nat) : Prop := ∀ (d y pc : Nat) (L S : List AV) (σ : Sg) (pc1 : Nat) (L1 S1 : List AV) (σ1 : Sg), run f d y pc L S σ = some (pc1, L1, S1, σ1) →
  ∀ (p : Program) (e : Env) (R : Room) (s : State) (m : MethodId) (args : Array Value) (below : List Frame) (meth : Method) (c : Code) (H : Heap) (locs : List Loc) (cells slots : Nat) (Q : State → Prop) (G : va_G) (cA : Nat → ClassId) (E : EE) (B0 : Nat → Prop) (ad : Nat → Nat) (ls : Array Slot),
    CX p R s m args meth c y d G cA E B0 → REL G cA E B0 s.heap (mL y) ad σ H locs ls L S → cells + (σ1.1 - σ.1) ≤ R.cells → slots + (σ1.2.1 - σ.2.1) ≤ R.slots → KT p l e R s m args below meth c Q G cA E B0 (mL y) cells slots ad σ pc1 L1 S1 σ1 → W p l e R s m args below meth c H locs cells slots Q (F0 m pc ls (S.map (cv E ad)))
theorem y_lt {y pc : Nat} {i : Instr} {r : List Int} (h : lk (cod y) pc = some (i, r)) : y < nY := (ok_all (lk_mem h)).1
/-- a run that ends at a return is a contract -/
theorem met_of {l : Launch} {f : Nat} (hs : SND l f) {d y pc1 : Nat} {as L1 S1 rv : List AV} {σ σ1 : Sg} (h : run f d y 0 (entL y as) [] σ = some (pc1, L1, S1, σ1)) (hr : retV y pc1 S1 = some rv) (ht : as.map Prod.fst = (mi y).2.1) (G : va_G) (cA : Nat → ClassId) (E : EE) (B0 : Nat → Prop) (ad : Nat → Nat) (hok : okS σ) (hoa : ∀ q ∈ as, okA σ.1 q) :
    Met l (yn y) (wsM y) (rmM d (σ1.1 - σ.1) (σ1.2.1 - σ.2.1)) (PcM G cA E B0 ad as σ) (fun a st o t => QcM G cA E B0 ad σ rv σ1 a st o t ∧ okS σ1 ∧ ∀ q ∈ rv, okA σ1.1 q) (σ1.1 - σ.1) (σ1.2.1 - σ.2.1) B0 := by
  unfold retV at hr
  cases hlk : lk (cod y) pc1 with
  | none => rw [hlk] at hr; cases hr
  | some z =>
    obtain ⟨i, r0⟩ := z
    rw [hlk] at hr
    dsimp only at hr
    have hok2 := ok_all (lk_mem hlk)
    have hy := hok2.1
    obtain ⟨yp1, yp2, yp3, yp4⟩ := y_plain y hy
    have hd : decode (bc y) pc1 = .ok (i, lenI i r0) := of_decide_eq_true ((Bool.and_eq_true _ _).mp hok2.2).1
    refine va_MetF (cc := bc y) (maxL := mL y) (ret := rt y) yp2 rfl ?_
    intro p e s m args below meth c s₁ B hml hv
    obtain ⟨rfl, hEV, hB0, hP, hD⟩ := hv
    have hx := B.exec
    have hb := B.bytes
    have hret := B.returns
    have hlocks := B.notSynchronized
    have hts0 := atoms_spec (ws := wsM y) B.pre
    have hts : ∀ w ∈ tw, w.before (as.map (cv E ad)).toArray s = true := fun w hw => hts0 w (List.mem_cons_of_mem _ hw)
    have hown : s.vm.findClass (Rn (mi y).1) = some m.cls := by rw [← yp1]; exact findClass_of_methodNamed B.named
    have hin : isIn y = true → meth.name = "<init>" := fun q => by rw [(name_of_methodNamed B.named B.method).1]; exact (y_in y hy q).1
    have C : CX p (headSpec (wsM y) (rmM d (σ1.1 - σ.1) (σ1.2.1 - σ.2.1))).room s m (as.map (cv E ad)).toArray meth c y d G cA E B0 := ⟨hx, hb, hml, hown, hts, hin, hEV, hB0, Nat.le_refl _, Nat.le_refl _⟩
    have hlay : (layA as).length ≤ mL y := by rw [layA_len, ht]; exact y_lay y hy
    rw [lg_entry_eq]
    refine hs d y 0 (entL y as) [] σ pc1 L1 S1 σ1 h p e _ s m _ below meth c s.heap [] 0 0 _ G cA E B0 ad _ C ⟨hP, hD, va_S.rf, entL_LR hEV.2.2.2.2 ad hlay, hok, entL_ok hoa, fun q hq => by cases hq⟩ (by rw [Nat.zero_add]; exact Nat.le_refl _) (by rw [Nat.zero_add]; exact Nat.le_refl _) ?_
    intro ad1 H1 locs1 ls1 hext hR
    rw [Nat.zero_add, Nat.zero_add]
    have hSok := hR.2.2.2.2.2.2
    have hfin : ∀ (t : State) (o : Outcome), t.heap = H1 → o = .returned ((rv.map (cv E ad1)).head?) → (∀ q ∈ rv, okA σ1.1 q) → (QcM G cA E B0 ad σ rv σ1 (as.map (cv E ad)).toArray s o t ∧ okS σ1 ∧ ∀ q ∈ rv, okA σ1.1 q) := by
      intro t o ht ho hq
      exact ⟨⟨ad1, hext, ho, by rw [ht]; exact hR.1, hR.2.1, hR.2.2.1.F ht⟩, hR.2.2.2.2.1, hq⟩
    cases i
    case ireturn =>
      have hr : retI (mi y).2.2.1 S1 = some rv := hr
      unfold retI at hr
      match S1, hr, hSok, hR with
      | [], hr, _, _ => cases hr
      | _ :: _ :: _, hr, _, _ => cases hr
      | [q], hr, hSok, hR =>
        obtain ⟨t, a⟩ := q
        dsimp only at hr
        cases hb0 : Nat.beq t 0 with
        | false => rw [hb0] at hr; cases hr
        | true =>
          rw [hb0] at hr
          have e0 := Nat.eq_of_beq_eq_true hb0
          subst e0
          dsimp only [cond_true] at hr
          rcases y_rt y hy with ⟨g1, g2⟩ | ⟨g1, g2⟩ | ⟨g1, g2⟩ | ⟨g1, g2⟩ | ⟨g1, g2⟩ | ⟨g1, g2⟩
          · rw [g1] at hr
            cases hr
            exact W.iret (v := Int32.ofInt a) hx hb (by rw [hret, g2]) (fun t ht _ => hfin t _ ht rfl hSok) hR.2.2.1.2.2 hd
          · rw [g1] at hr; cases hr
          · rw [g1] at hr
            try dsimp only at hr
            by_cases h01 : a = 0 ∨ a = 1
            · rw [if_pos h01] at hr
              cases hr
              exact W.zret (v := Int32.ofInt a) (ty := .boolean) hx hb (by rw [hret, g2]) (nar_zz h01) (fun t ht _ => hfin t _ ht rfl hSok) hR.2.2.1.2.2 hd
            · rw [if_neg h01] at hr; cases hr
          · rw [g1] at hr
            try dsimp only at hr
            by_cases h01 : -128 ≤ a ∧ a < 128
            · rw [if_pos h01] at hr
              cases hr
              exact W.zret (v := Int32.ofInt a) (ty := .byte) hx hb (by rw [hret, g2]) (nar_by h01.1 h01.2) (fun t ht _ => hfin t _ ht rfl hSok) hR.2.2.1.2.2 hd
            · rw [if_neg h01] at hr; cases hr
          · rw [g1] at hr
            try dsimp only at hr
            by_cases h01 : 0 ≤ a ∧ a < 65536
            · rw [if_pos h01] at hr
              cases hr
              exact W.zret (v := Int32.ofInt a) (ty := .char) hx hb (by rw [hret, g2]) (nar_c h01.1 h01.2) (fun t ht _ => hfin t _ ht rfl hSok) hR.2.2.1.2.2 hd
            · rw [if_neg h01] at hr; cases hr
          · rw [g1] at hr; cases hr
    case lreturn =>
      dsimp only at hr
      match S1, hr, hSok, hR with
      | [], hr, _, _ => cases hr
      | _ :: _ :: _, hr, _, _ => cases hr
      | [q], hr, hSok, hR =>
        obtain ⟨t, a⟩ := q
        dsimp only at hr
        cases hb0 : (Nat.beq t 1 && Nat.beq (mi y).2.2.1 1) with
        | false => rw [hb0] at hr; cases hr
        | true =>
          rw [hb0] at hr
          rw [Bool.and_eq_true] at hb0
          have e0 := Nat.eq_of_beq_eq_true hb0.1
          have e1 := Nat.eq_of_beq_eq_true hb0.2
          subst e0
          cases hr
          have g2 : rt y = some .long := by
            rcases y_rt y hy with ⟨g1, g2⟩ | ⟨g1, g2⟩ | ⟨g1, g2⟩ | ⟨g1, g2⟩ | ⟨g1, g2⟩ | ⟨g1, g2⟩
            · omega
            · exact g2
            · omega
            · omega
            · omega
            · omega
          exact W.lret (v := Int64.ofInt a) hx hb (by rw [hret, g2]) (fun t ht _ => hfin t _ ht rfl hSok) hR.2.2.1.2.2 hd
    case return_ =>
      dsimp only at hr
      match S1, hr, hSok, hR with
      | _ :: _, hr, _, _ => cases hr
      | [], hr, hSok, hR =>
        dsimp only at hr
        cases hb0 : Nat.beq (mi y).2.2.1 9 with
        | false => rw [hb0] at hr; cases hr
        | true =>
          rw [hb0] at hr
          have e1 := Nat.eq_of_beq_eq_true hb0
          cases hr
          have g2 : rt y = none := by
            rcases y_rt y hy with ⟨g1, g2⟩ | ⟨g1, g2⟩ | ⟨g1, g2⟩ | ⟨g1, g2⟩ | ⟨g1, g2⟩ | ⟨g1, g2⟩
            · omega
            · omega
            · omega
            · omega
            · omega
            · exact g2
          exact W.vret hx hb (by rw [hret, g2]) (fun t ht _ => hfin t _ ht rfl hSok) hR.2.2.1.2.2 hd
    all_goals exact nomatch (show (none : Option (List AV)) = some _ from hr)
