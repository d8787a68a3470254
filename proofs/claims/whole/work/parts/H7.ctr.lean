/-! The class's methods as the law calls them: one that returns, one that throws. -/
theorem EV.narrow {G : va_G} {cA : Nat → ClassId} {E : EE} {A B : Nat → Prop} {U : State} {H : Heap} (h : EV G cA E A U H) (hAB : ∀ q, B q → A q) : EV G cA E B U H := by
  obtain ⟨h1, h2, h3, h4, h5⟩ := h
  refine ⟨h1, fun j hj => ?_, h3.narrow hAB, h4.narrow hAB, h5⟩
  obtain ⟨a1, a2, a3, a4, a5⟩ := h2 j hj
  exact ⟨a1.narrow hAB, a2.narrow hAB, a3.narrow hAB, a4.narrow hAB, a5⟩
def badX (w : Cond) : Bool := match w with
  | .castable _ _ => true
  | .declares _ => true
  | _ => false
theorem bad_at {w : Cond} (hb : badX w = true) {u U : State} (hvm : u.vm.Alike U.vm) (h : w.before #[] u = true) : w.before #[] U = true := by
  have tr : ∀ {c : Cond}, c.onTables = true → c.before #[] (u.setVm U.vm) = true → c.before #[] U = true := by
    intro c hc h
    have e := Cond.onTables_vm (A := #[]) (A' := #[]) (U := u) (U' := U) U.vm c hc
    have hU : U.setVm U.vm = U := rfl
    rw [hU] at e
    rw [← e]
    exact h
  cases w with
  | castable a b => exact tr rfl (by rw [Cond.castable_setVm hvm]; exact h)
  | declares x => exact tr rfl (by rw [Cond.declares_setVm hvm]; exact h)
  | _ => exact absurd hb (by simp [badX])
theorem bad_tab {w : Cond} (hb : badX w = true) : w.onTables = true := by
  cases w with
  | castable a b => rfl
  | declares x => rfl
  | _ => exact absurd hb (by simp [badX])
/-- what a throw needs of the world -/
def XEv (A : Nat → Prop) (U : State) (H : Heap) : Prop := (∀ w ∈ lw_tbl, badX w = true → w.before #[] U = true) ∧ vx_Zq Bundle.tN "UNASSIGNED_STACK" Bundle.steD A U H ∧ vx_Zq Bundle.tN "SUPPRESSED_SENTINEL" Bundle.listD A U H ∧ ∀ k ∈ [67, 72, 94, 97, 99, 131, 142, 151], ∃ (tx : String) (sa : Nat), vk_R "QuillEngine" k tx sa U
theorem XEv.moved {A : Nat → Prop} {u U : State} {H : Heap} (hW : u.WarmedH U.vm) (h : XEv A u H) : XEv A U H := by
  obtain ⟨h1, h2, h3, h4⟩ := h
  refine ⟨fun w hw hb => bad_at hb hW.alike (h1 w hw hb), h2.moved hW.alike, h3.moved hW.alike, fun k hk => ?_⟩
  obtain ⟨tx, sa, g⟩ := h4 k hk
  exact ⟨tx, sa, g.warm hW⟩
theorem XEv.same {A : Nat → Prop} {u U : State} {H : Heap} (hv : U.vm = u.vm) (h : XEv A u H) : XEv A U H := by
  obtain ⟨h1, h2, h3, h4⟩ := h
  have ha : u.vm.Alike U.vm := by rw [hv]; exact Vm.Alike.refl _
  refine ⟨fun w hw hb => bad_at hb ha (h1 w hw hb), h2.moved ha, h3.moved ha, fun k hk => ?_⟩
  obtain ⟨tx, sa, g⟩ := h4 k hk
  exact ⟨tx, sa, g.same hv⟩
theorem XEv.kept {A : Nat → Prop} {U : State} {H H1 : Heap} (h : XEv A U H) (hq : ∀ a : Nat, a < H.size → ¬ A a → H1[a]? = H[a]?) : XEv A U H1 := ⟨h.1, h.2.1.kept hq, h.2.2.1.kept hq, h.2.2.2⟩
theorem XEv.narrow {A B : Nat → Prop} {U : State} {H : Heap} (h : XEv A U H) (hAB : ∀ q, B q → A q) : XEv B U H := ⟨h.1, h.2.1.narrow hAB, h.2.2.1.narrow hAB, h.2.2.2⟩
theorem wsO_ad {cA : Nat → ClassId} {E : EE} {ad ad0 : Nat → Nat} {σ : Sg} (ho : okS σ) (he : ∀ c, c < σ.1 → ad c = ad0 c) : wsO cA E σ ad = wsO cA E σ ad0 := by
  unfold wsO
  refine List.map_congr_left (fun c hc => ?_)
  have hc := List.mem_range.mp hc
  have e : entE cA E σ ad c = entE cA E σ ad0 c := by
    unfold entE
    by_cases q : (σ.2.2.1 c).1 < 100
    · rw [if_pos q, if_pos q]
      have e2 : (List.range (nN (σ.2.2.1 c).1)).map (fun k => fval E σ ad c (ft (σ.2.2.1 c).1 k) k) = (List.range (nN (σ.2.2.1 c).1)).map (fun k => fval E σ ad0 c (ft (σ.2.2.1 c).1 k) k) := by
        refine List.map_congr_left (fun k _ => ?_)
        unfold fval
        by_cases h2 : ft (σ.2.2.1 c).1 k = 2
        · rw [if_pos h2, if_pos h2]
          have et : tgc σ c k = 2 := by
            unfold tgc
            rw [if_pos q]
            exact h2
          exact cvR_ext he (((ho c hc).2.2 k).1 et).2
        · rw [if_neg h2, if_neg h2]
      rw [e2]
    · rw [if_neg q, if_neg q]
  rw [e, he c hc]
theorem ret_int {y pc1 : Nat} {S1 : List AV} {x : Int} (hi : (mi y).2.2.1 = 0) (h : retV y pc1 S1 = some [(0, x)]) : ∃ r0, lk (cod y) pc1 = some (.ireturn, r0) ∧ S1 = [(0, x)] := by
  unfold retV at h
  cases hlk : lk (cod y) pc1 with
  | none => rw [hlk] at h; cases h
  | some z =>
    obtain ⟨i, r0⟩ := z
    rw [hlk] at h
    cases i
    case ireturn =>
      have h : retI (mi y).2.2.1 S1 = some [(0, x)] := h
      rw [hi] at h
      unfold retI at h
      match S1, h with
      | [], h => cases h
      | _ :: _ :: _, h => cases h
      | [q], h =>
        dsimp only at h
        cases hb0 : Nat.beq q.1 0 with
        | false => rw [hb0] at h; cases h
        | true =>
          rw [hb0] at h
          have h : some [q] = some [(0, x)] := h
          injection h with h
          injection h with h _
          exact ⟨r0, rfl, by rw [h]⟩
    case lreturn =>
      rw [hi] at h
      match S1, h with
      | [], h => cases h
      | _ :: _ :: _, h => cases h
      | [q], h =>
        have h : (bif Nat.beq q.1 1 && Nat.beq 0 1 then some [q] else none) = some [(0, x)] := h
        rw [show Nat.beq 0 1 = false from rfl, Bool.and_false] at h
        cases h
    case return_ =>
      rw [hi] at h
      match S1, h with
      | _ :: _, h => cases h
      | [], h => cases h
    all_goals exact nomatch (show (none : Option (List AV)) = some _ from h)
/-- a method that comes to its return, as a contract -/
theorem met_xt {l : Launch} {t t' : Int} {d y : Nat} {as : List AV} {v : Mem} {P : Int → Mem → Prop} (h : XT t t' d y 0 (entL y as) [] v P) (ht : as.map Prod.fst = (mi y).2.1) (hok : okS (sg t v)) (hoa : ∀ q ∈ as, okA 82 q) (G : va_G) (cA : Nat → ClassId) (E : EE) (B0 : Nat → Prop) (ad : Nat → Nat) :
    ∃ (x : Int) (v' : Mem), P x v' ∧ Met l (yn y) (wsM y) (rmM d 0 0) (PcM G cA E B0 ad as (sg t v)) (fun a st o tt => QcM G cA E B0 ad (sg t v) (rvOf y x) (sg t' v') a st o tt ∧ okS (sg t' v') ∧ ∀ q ∈ rvOf y x, okA 82 q) 0 0 B0 := by
  obtain ⟨x, v', h1, h2⟩ := h
  refine ⟨x, v', h2, ?_⟩
  unfold xR at h1
  cases hx : xr d y 0 (entL y as) [] (sg t v) with
  | none => rw [hx] at h1; cases h1
  | some q =>
    obtain ⟨pc1, L1, S1, σ1⟩ := q
    rw [hx] at h1
    have h1 : (retV y pc1 S1).map (fun rv => (rv, σ1)) = some (rvOf y x, sg t' v') := h1
    cases hr : retV y pc1 S1 with
    | none => rw [hr] at h1; cases h1
    | some rv =>
      rw [hr] at h1
      have h1 : some (rv, σ1) = some (rvOf y x, sg t' v') := h1
      injection h1 with h1
      injection h1 with e1 e2
      subst e2
      subst e1
      obtain ⟨f, hf⟩ := x_some.mp hx
      have hm := met_of (snd_all l f) hf hr ht G cA E B0 ad hok hoa
      have e1 : (sg t' v').1 - (sg t v).1 = 0 := Nat.sub_self 82
      have e2 : (sg t' v').2.1 - (sg t v).2.1 = 0 := Nat.sub_self nSl
      rw [e1, e2] at hm
      exact hm
