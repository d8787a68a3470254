/-! What the constructors leave: the law's invariant. -/
theorem void_out {y pc : Nat} {S : List AV} (h : void y pc S = true) : retV y pc S = some [] := by
  unfold void at h
  split at h
  · assumption
  · cases h
theorem con_out : ∃ (pc1 pc2 : Nat) (L1 S1 L2 S2 : List AV) (σ1 σ2 : Sg), con1 = some (pc1, L1, S1, σ1) ∧ retV 171 pc1 S1 = some [] ∧ σ1.1 = 38 ∧ con2 σ1 = some (pc2, L2, S2, σ2) ∧ retV 181 pc2 S2 = some [] ∧ chkS σ2 = true ∧ chkV σ2.2.2.2.2 = true := by
  have h := con_chk
  generalize con1 = c1 at h ⊢
  match c1, h with
  | none, h => cases h
  | some (pc1, L1, S1, σ1), h =>
    have h : (void 171 pc1 S1 && Nat.beq σ1.1 38 && (match con2 σ1 with
      | some r => void 181 r.1 r.2.2.1 && (chkS r.2.2.2 && chkV r.2.2.2.2.2.2.2)
      | none => false)) = true := h
    obtain ⟨h1, h2⟩ := Bool.and_eq_true_iff.mp h
    obtain ⟨h3, h4⟩ := Bool.and_eq_true_iff.mp h1
    generalize hc : con2 σ1 = c2 at h2
    match c2, h2 with
    | none, h2 => cases h2
    | some (pc2, L2, S2, σ2), h2 =>
      have h2 : (void 181 pc2 S2 && (chkS σ2 && chkV σ2.2.2.2.2)) = true := h2
      obtain ⟨h5, h6⟩ := Bool.and_eq_true_iff.mp h2
      obtain ⟨h7, h8⟩ := Bool.and_eq_true_iff.mp h6
      exact ⟨pc1, pc2, L1, S1, L2, S2, σ1, σ2, rfl, void_out h3, Nat.eq_of_beq_eq_true h4, hc, void_out h5, h7, h8⟩
theorem chkS_out {σ : Sg} (h : chkS σ = true) : σ.1 = 82 ∧ σ.2.1 = nSl ∧ ∀ c, c < 82 → σ.2.2.1 c = SH c ∧ ((SH c).1 < 100 → ∀ k, k < nN (SH c).1 → σ.2.2.2.1 c k = RF (-1) c k) := by
  unfold chkS at h
  obtain ⟨h1, h2⟩ := Bool.and_eq_true_iff.mp h
  obtain ⟨h3, h4⟩ := Bool.and_eq_true_iff.mp h1
  refine ⟨Nat.eq_of_beq_eq_true h3, Nat.eq_of_beq_eq_true h4, fun c hc => ?_⟩
  have g := List.all_eq_true.mp h2 c (List.mem_range.mpr hc)
  obtain ⟨g1, g2⟩ := Bool.and_eq_true_iff.mp g
  refine ⟨of_decide_eq_true g1, fun h100 k hk => ?_⟩
  have e : Nat.blt (SH c).1 100 = true := Nat.blt_eq.mpr h100
  rw [e] at g2
  exact of_decide_eq_true (List.all_eq_true.mp g2 k (List.mem_range.mpr hk))
/-- the cells of a state with these shapes and references are those of sg -/
theorem wsO_sg {cA : Nat → ClassId} {E : EE} {ad : Nat → Nat} {σ : Sg} (h : chkS σ = true) : wsO cA E σ ad = wsO cA E (sg (-1) σ.2.2.2.2) ad := by
  obtain ⟨h1, h2, h3⟩ := chkS_out h
  unfold wsO
  rw [h1]
  show (List.range 82).map _ = (List.range 82).map _
  refine List.map_congr_left (fun c hc => ?_)
  have hc := List.mem_range.mp hc
  obtain ⟨g1, g2⟩ := h3 c hc
  have e : entE cA E σ ad c = entE cA E (sg (-1) σ.2.2.2.2) ad c := by
    unfold entE
    show (if (σ.2.2.1 c).1 < 100 then _ else _) = (if (SH c).1 < 100 then _ else _)
    rw [g1]
    by_cases q : (SH c).1 < 100
    · rw [if_pos q, if_pos q]
      have e2 : (List.range (nN (SH c).1)).map (fun k => fval E σ ad c (ft (SH c).1 k) k) = (List.range (nN (SH c).1)).map (fun k => fval E (sg (-1) σ.2.2.2.2) ad c (ft (SH c).1 k) k) := by
        refine List.map_congr_left (fun k hk => ?_)
        have hk := List.mem_range.mp hk
        unfold fval
        rw [g2 q k hk]
        rfl
      rw [e2]
      rfl
    · rw [if_neg q, if_neg q]
      rfl
  rw [e]
theorem RF_r : ∀ c, c < 82 → ∀ k, -1 ≤ RF (-1) c k ∧ RF (-1) c k < 82 := by
  have h : (List.range 82).all (fun c => ((rfL.getD c []).all (fun a => decide (-1 ≤ a ∧ a < 82)))) = true := by decide +kernel
  intro c hc k
  unfold RF
  have g := List.all_eq_true.mp h c (List.mem_range.mpr hc)
  have key : ∀ (l : List Int), l.all (fun a => decide (-1 ≤ a ∧ a < 82)) = true → -1 ≤ l.getD k (-1) ∧ l.getD k (-1) < 82 := by
    intro l hl
    by_cases q : k < l.length
    · have := List.all_eq_true.mp hl _ (getD_mem (d := -1) l k q)
      exact of_decide_eq_true this
    · rw [List.getD_eq_getElem?_getD, List.getElem?_eq_none (by omega)]
      exact ⟨by decide, by decide⟩
  cases e : Nat.beq c 23 with
  | true => exact key _ (by decide)
  | false => exact key _ g
theorem okS_sg {σ : Sg} (h : chkS σ = true) (ho : okS σ) : okS (sg (-1) σ.2.2.2.2) := by
  obtain ⟨h1, h2, h3⟩ := chkS_out h
  intro c hc
  have hc : c < 82 := hc
  obtain ⟨g1, g2⟩ := h3 c hc
  obtain ⟨o1, o2, o3⟩ := ho c (by rw [h1]; exact hc)
  rw [g1] at o1 o2
  have et : ∀ k, tgc (sg (-1) σ.2.2.2.2) c k = tgc σ c k := fun k => by
    unfold tgc
    rw [g1]
    rfl
  refine ⟨o1, o2, fun k => ⟨fun _ => RF_r c hc k, fun e => ?_⟩⟩
  rw [et] at e ⊢
  exact (o3 k).2 e
theorem INV_0 {σ : Sg} (h : chkS σ = true) (hv : chkV σ.2.2.2.2 = true) (ho : okS σ) : INV σ.2.2.2.2 := by
  obtain ⟨h1, h2, h3⟩ := chkS_out h
  unfold chkV at hv
  simp only [Bool.and_eq_true, decide_eq_true_eq] at hv
  obtain ⟨⟨⟨⟨⟨⟨⟨⟨⟨v1, v2⟩, v3⟩, v4⟩, v5⟩, v6⟩, v7⟩, v8⟩, v9⟩, v10⟩ := hv
  have by8 : ∀ c, c < 82 → SH c = (101, (SH c).2) → ∀ k, -128 ≤ σ.2.2.2.2 c k ∧ σ.2.2.2.2 c k < 128 := by
    intro c hc hs k
    have o := ((ho c (by rw [h1]; exact hc)).2.2 k).2
    have et : tgc σ c k = 5 := by
      unfold tgc
      rw [(h3 c hc).1, hs]
      rfl
    rw [et] at o
    exact o (by decide)
  refine ⟨⟨0, Nat.zero_le _, v1, v5, fun j hj => absurd hj (Nat.not_lt_zero _)⟩, ⟨?_, ⟨0, v4, by decide⟩, fun k k1 k2 => ?_, fun k _ => by8 14 (by decide) rfl k, fun k => by8 12 (by decide) rfl k⟩, ⟨?_, Or.inl ⟨v2, v6⟩⟩, Or.inl ⟨v3, v8⟩⟩
  · intro i w hi
    have hl : i < kwL.length := by
      rcases Nat.lt_or_ge i kwL.length with q | q
      · exact q
      · rw [List.getElem?_eq_none q] at hi; cases hi
    have := of_decide_eq_true (List.all_eq_true.mp v10 i (List.mem_range.mpr hl))
    rw [this, List.getD_eq_getElem?_getD, hi]
    rfl
  · have := of_decide_eq_true (List.all_eq_true.mp v9 (k - 38) (List.mem_range.mpr (by omega)))
    rw [show 38 + (k - 38) = k from by omega] at this
    rw [this]
    decide
  · unfold f_174
    rw [if_pos v2, v7]
