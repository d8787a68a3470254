/-! Instructions on cells. Printed by wip/whole/gen/genheap.py. -/
theorem tyT_ok : ∀ ci, ci < 11 → ∀ k, k < nN ci → parseFieldDescriptor (TT ci k).2.2.1 = some (tyT ci k) := by
  intro ci h
  match ci, h with
  | 0, _ => exact tyX0_ok
  | 1, _ => exact tyX1_ok
  | 2, _ => exact tyX2_ok
  | 3, _ => exact tyX3_ok
  | 4, _ => exact tyX4_ok
  | 5, _ => exact tyX5_ok
  | 6, _ => exact tyX6_ok
  | 7, _ => exact tyX7_ok
  | 8, _ => exact tyX8_ok
  | 9, _ => exact tyX9_ok
  | 10, _ => exact tyX10_ok
  | n + 11, h => exact absurd h (by omega)
theorem nmT : ∀ ci, ci < 11 → ∀ a, a < nN ci → ∀ b, b < nN ci → a ≠ b → (TT ci a).2.1 ≠ (TT ci b).2.1 := by
  intro ci h
  match ci, h with
  | 0, _ => exact nmX0
  | 1, _ => exact nmX1
  | 2, _ => exact nmX2
  | 3, _ => exact nmX3
  | 4, _ => exact nmX4
  | 5, _ => exact nmX5
  | 6, _ => exact nmX6
  | 7, _ => exact nmX7
  | 8, _ => exact nmX8
  | 9, _ => exact nmX9
  | 10, _ => exact nmX10
  | n + 11, h => exact absurd h (by omega)
set_option maxRecDepth 100000 in
theorem LA_in : ∀ ci, ci < 11 → ∀ k, k < nN ci → (ci, k) ∈ LA := by decide +kernel
theorem lay_good (C : String) (T : u_T) (k : Nat) : goodWord (u_lay C T k) = true := by
  unfold u_lay
  split <;> rfl
theorem inT {ci : Nat} (h : ci < 11) : ∀ w ∈ u_ws (Rn ci) (TT ci) (nN ci), w ∈ tw := by
  intro w hw
  unfold u_ws at hw
  obtain ⟨k, hk, rfl⟩ := List.mem_map.mp hw
  exact tw_of (in_la (ci, k) (LA_in ci h k (List.mem_range.mp hk))) (lay_good _ _ _)
def refTy (t : FieldType) : Bool := match t with
  | .object _ => true
  | .array _ => true
  | _ => false
set_option maxRecDepth 100000 in
theorem ft_ty : ∀ ci, ci < 11 → ∀ k, k < nN ci → (ft ci k = 0 ∧ tyT ci k = .int) ∨ (ft ci k = 1 ∧ tyT ci k = .long) ∨ (ft ci k = 4 ∧ tyT ci k = .boolean) ∨ (ft ci k = 2 ∧ refTy (tyT ci k) = true) := by decide +kernel
set_option maxRecDepth 100000 in
theorem FT_ok : ∀ q ∈ FT, q.2.2.1 < 11 ∧ q.2.2.2 < nN q.2.2.1 ∧ q.2.1 < 10000 ∧ q.2.2.2 < 100 ∧ (TT q.2.2.1 q.2.2.2).1 = Rn q.2.2.1 := by decide +kernel
set_option maxRecDepth 100000 in
theorem MT_ok : ∀ q ∈ MT, q.2.1 < 10000 ∧ q.2.2 < 279 := by decide +kernel
theorem hasN_mem {l : List Nat} {n : Nat} (h : hasN l n = true) : n ∈ l := by
  induction l with
  | nil => cases h
  | cons a l ih =>
    unfold hasN at h
    rw [Bool.or_eq_true] at h
    rcases h with h | h
    · rw [Nat.eq_of_beq_eq_true h]; exact List.mem_cons_self
    · exact List.mem_cons_of_mem _ (ih h)
theorem FT_of {o idx ci k : Nat} (h1 : idx < 10000 ∧ ci < 100 ∧ k < 100) (h : hasN FTn (ecF (o, idx, ci, k)) = true) : (o, idx, ci, k) ∈ FT := by
  have h2 := hasN_mem h
  rw [FTn_eq] at h2
  obtain ⟨q, hq, he⟩ := List.mem_map.mp h2
  have h3 := FT_ok q hq
  obtain ⟨o', i', c', k'⟩ := q
  unfold ecF at he
  dsimp only at he h3
  have : o' = o ∧ i' = idx ∧ c' = ci ∧ k' = k := by omega
  obtain ⟨rfl, rfl, rfl, rfl⟩ := this
  exact hq
theorem MT_of {o idx y : Nat} (h1 : idx < 10000 ∧ y < 1000) (h : hasN MTn (ecM (o, idx, y)) = true) : (o, idx, y) ∈ MT := by
  have h2 := hasN_mem h
  rw [MTn_eq] at h2
  obtain ⟨q, hq, he⟩ := List.mem_map.mp h2
  have h3 := MT_ok q hq
  obtain ⟨o', i', y'⟩ := q
  unfold ecM at he
  dsimp only at he h3
  have : o' = o ∧ i' = idx ∧ y' = y := by omega
  obtain ⟨rfl, rfl, rfl⟩ := this
  exact hq
theorem fval_put {E : EE} {σ : Sg} {ad : Nat → Nat} {c k : Nat} {a : Int} {t k' : Nat} (h : k' ≠ k) : fval E (sPutV σ c k a) ad c t k' = fval E σ ad c t k' := by
  have hv : (sPutV σ c k a).2.2.2.2 c k' = σ.2.2.2.2 c k' := up_nk h
  unfold fval
  rw [hv]
  rfl
theorem fval_putR {E : EE} {σ : Sg} {ad : Nat → Nat} {c k : Nat} {a : Int} {t k' : Nat} (h : k' ≠ k) : fval E (sPutR σ c k a) ad c t k' = fval E σ ad c t k' := by
  have hv : (sPutR σ c k a).2.2.2.1 c k' = σ.2.2.2.1 c k' := up_nk h
  unfold fval
  rw [hv]
  rfl
theorem okS_putV {σ : Sg} {c k : Nat} {a : Int} (h : okS σ) (ha : tgc σ c k ≠ 2 → rng (tgc σ c k) a) : okS (sPutV σ c k a) := by
  intro c' hc'
  obtain ⟨h1, h2, h3⟩ := h c' hc'
  refine ⟨h1, h2, fun k' => ⟨(h3 k').1, fun ht => ?_⟩⟩
  have ht : tgc σ c' k' ≠ 2 := ht
  show rng (tgc σ c' k') (up σ.2.2.2.2 c k a c' k')
  by_cases e1 : c' = c
  · subst e1
    by_cases e2 : k' = k
    · subst e2; rw [up_k]; exact ha ht
    · rw [up_nk e2]; exact (h3 k').2 ht
  · rw [up_ne e1]; exact (h3 k').2 ht
theorem okS_putR {σ : Sg} {c k : Nat} {a : Int} (h : okS σ) (ha : -1 ≤ a ∧ a < σ.1) : okS (sPutR σ c k a) := by
  intro c' hc'
  obtain ⟨h1, h2, h3⟩ := h c' hc'
  refine ⟨h1, h2, fun k' => ⟨fun ht => ?_, (h3 k').2⟩⟩
  have ht : tgc σ c' k' = 2 := ht
  show -1 ≤ up σ.2.2.2.1 c k a c' k' ∧ up σ.2.2.2.1 c k a c' k' < σ.1
  by_cases e1 : c' = c
  · subst e1
    by_cases e2 : k' = k
    · subst e2; rw [up_k]; exact ha
    · rw [up_nk e2]; exact (h3 k').1 ht
  · rw [up_ne e1]; exact (h3 k').1 ht
theorem vp_inI {j : Int} {n : Nat} (h : 0 ≤ j ∧ j < (n : Int)) (hn : n < 20000) : vp_in (Int32.ofInt j) n := by
  rw [vp_in_iff, t32 (by omega) (by omega)]
  exact h
theorem upd_ofInt {v : Nat → Nat → Int} {c : Nat} {j : Int} {x : Int} {y : Int32} (h1 : 0 ≤ j) (h2 : j < 20000) (hy : y = Int32.ofInt x) : upd (fun i => Int32.ofInt (v c i)) (Int32.ofInt j).toNatClampNeg y = fun i => Int32.ofInt (up v c j.toNat x c i) := by
  rw [cl32 (by omega) (by omega), hy]
  funext i
  unfold upd
  by_cases e : i = j.toNat
  · rw [if_pos e, e, up_k]
  · rw [if_neg e, up_nk e]
theorem updL_ofInt {v : Nat → Nat → Int} {c : Nat} {j : Int} {x : Int} (h1 : 0 ≤ j) (h2 : j < 20000) : vp_updL (fun i => Int64.ofInt (v c i)) (Int32.ofInt j).toNatClampNeg (Int64.ofInt x) = fun i => Int64.ofInt (up v c j.toNat x c i) := by
  rw [cl32 (by omega) (by omega)]
  funext i
  unfold vp_updL
  by_cases e : i = j.toNat
  · rw [if_pos e, e, up_k]
  · rw [if_neg e, up_nk e]
section STH
variable {p : Program} {l : Launch} {e : Env} {R : Room} {s : State} {m : MethodId} {args : Array Value} {below : List Frame} {meth : Method} {c : Code} {H : Heap} {locs : List Loc} {cells slots : Nat} {Q : State → Prop} {G : va_G} {cA : Nat → ClassId} {E : EE} {B0 : Nat → Prop} {y d nL : Nat} {ad : Nat → Nat} {σ : Sg} {ls : Array Slot} {L S : List AV} {pc : Nat}
/-- behind a store into a cell: the same cells, one changed -/
theorem KT.cell {pc1 : Nat} {S1 : List AV} {σ1 : Sg} {k : Nat} {H1 : Heap} {locs1 : List Loc} (kk : KT p l e R s m args below meth c Q G cA E B0 nL cells slots ad σ pc1 L S1 σ1) (hR : REL G cA E B0 s.heap nL ad σ H locs ls L S) (hn : σ1.1 = σ.1) (hm : σ1.2.1 = σ.2.1) (hk : k < σ.1) (hent : ∀ j, j ≠ k → j < σ.1 → entE cA E σ1 ad j = entE cA E σ ad j) (ho : okS σ1) (hS : ∀ q ∈ S1, okA σ.1 q)
    (hP : va_P G vCl ((wsO cA E σ ad).set k (ad k, entE cA E σ1 ad k)) H1) (hD : va_D B0 ((wsO cA E σ ad).set k (ad k, entE cA E σ1 ad k))) (hS1 : va_S B0 s.heap H1 locs1) : W p l e R s m args below meth c H1 locs1 cells slots Q (F0 m pc1 ls (S1.map (cv E ad))) := by
  rw [wsO_set hn hk hent] at hP hD
  have h := kk ad H1 locs1 ls (fun _ _ => rfl) ⟨hP, hD, hS1, hR.2.2.2.1, ho, by rw [hn]; exact hR.2.2.2.2.2.1, by rw [hn]; exact hS⟩
  rw [hn, hm, Nat.sub_self, Nat.sub_self] at h
  exact h
theorem st_gfld {idx pc1 : Nat} {tg ci k : Nat} {a : Int} {L1 S1 S2 : List AV} {σ1 : Sg} (C : CX p R s m args meth c y d G cA E B0) (hd : decode (bc y) pc = .ok (.getfield idx, 3)) (hF : ((mi y).1, idx, ci, k) ∈ FT) (htg : tg = ft ci k) (hR : REL G cA E B0 s.heap nL ad σ H locs ls L S) (hSe : S = (2, a) :: S2) (h : gfld L S2 σ (pc + 3) tg ci k a = some (pc1, L1, S1, σ1)) (kk : KT p l e R s m args below meth c Q G cA E B0 nL cells slots ad σ pc1 L1 S1 σ1) : W p l e R s m args below meth c H locs cells slots Q (F0 m pc ls (S.map (cv E ad))) := by
  obtain ⟨hx, hb, hml, hown, hts, hin, hEV, hB0, hfr, hlo⟩ := C
  subst hSe
  have hSok := hR.2.2.2.2.2.2
  unfold gfld at h
  cases hc : isC σ a ci with
  | false => rw [hc] at h; cases h
  | true =>
    rw [hc] at h
    obtain ⟨j, rfl, hj, hsh⟩ := isC_spec hc
    cases h
    obtain ⟨f1, f2, f3, f4, f5⟩ := FT_ok _ hF
    dsimp only at f1 f2 f5
    show W p l e R s m args below meth c H locs cells slots Q (F0 m pc ls (cv E ad (2, (j : Int)) :: S2.map (cv E ad)))
    rw [cv_ref]
    have he : (wsO cA E σ ad)[j]? = some (ad j, .inr (ci, (List.range (nN ci)).map (fun k => fval E σ ad j (ft ci k) k))) := by rw [wsO_at hj, entE_obj hsh f1]
    refine va_get (D := G) (ci := ci) (C := Rn ci) (T := TT ci) (N := nN ci) (own := Rn (mi y).1) (ref := (TT ci k).1) hx hb hts (inT f1) hown hEV.1 hR.1 j he (vCl_at f1) k f2 (hts _ (tw_of (in_FT _ hF) rfl)) (fun _ h9 => h9) (v := fval E σ ad j (ft ci k) k) (by simp [List.getElem?_range f2]) hd ?_
    have hrange : ∀ t, tgc σ j k = t ↔ ft ci k = t := fun t => by unfold tgc; rw [hsh, if_pos (by omega)]
    have hok := (hR.2.2.2.2.1 j hj).2.2 k
    subst htg
    rcases ft_ty ci f1 k f2 with ⟨q, -⟩ | ⟨q, -⟩ | ⟨q, -⟩ | ⟨q, -⟩
    · rw [q] at kk ⊢
      have h9 := hok.2 (by rw [Ne, hrange]; omega)
      rw [(hrange 0).mpr q] at h9
      exact kk.stk hR (okc (show okA σ.1 (0, _) from h9) (okt hSok))
    · rw [q] at kk ⊢
      have h9 := hok.2 (by rw [Ne, hrange]; omega)
      rw [(hrange 1).mpr q] at h9
      exact kk.stk hR (okc (show okA σ.1 (1, _) from h9) (okt hSok))
    · rw [q] at kk ⊢
      have h9 := hok.2 (by rw [Ne, hrange]; omega)
      rw [(hrange 4).mpr q] at h9
      exact kk.stk hR (okc (show okA σ.1 (0, σ.2.2.2.2 j k) from by
        rcases h9 with h9 | h9
        · show _ ∧ _; rw [h9]; exact ⟨by omega, by omega⟩
        · show _ ∧ _; rw [h9]; exact ⟨by omega, by omega⟩) (okt hSok))
    · rw [q] at kk ⊢
      have h9 := hok.1 ((hrange 2).mpr q)
      exact kk.stk hR (okc (show okA σ.1 (2, _) from h9.2) (okt hSok))
theorem fits_ref {t : FieldType} (h : refTy t = true) {v : Value} (hv : v = .null ∨ ∃ z, v = .ref z) : narrow t v = v ∧ fits t v = true := by
  cases t <;> first | (exact absurd h (by decide)) | (rcases hv with rfl | ⟨z, rfl⟩ <;> exact ⟨rfl, rfl⟩)
theorem st_pfld {idx pc1 : Nat} {tg ci k : Nat} {a : Int} {q : AV} {L1 S1 S2 : List AV} {σ1 : Sg} (C : CX p R s m args meth c y d G cA E B0) (hd : decode (bc y) pc = .ok (.putfield idx, 3)) (hF : ((mi y).1, idx, ci, k) ∈ FT) (htg : tg = ft ci k) (hfi : (TT ci k).2.2.2 = false ∨ (isIn y = true ∧ ci = (mi y).1)) (hR : REL G cA E B0 s.heap nL ad σ H locs ls L S) (hSe : S = q :: (2, a) :: S2) (h : pfld L S2 σ (pc + 3) tg ci k q a = some (pc1, L1, S1, σ1)) (kk : KT p l e R s m args below meth c Q G cA E B0 nL cells slots ad σ pc1 L1 S1 σ1) : W p l e R s m args below meth c H locs cells slots Q (F0 m pc ls (S.map (cv E ad))) := by
  obtain ⟨hx, hb, hml, hown, hts, hin, hEV, hB0, hfr, hlo⟩ := C
  subst hSe
  have hSok := hR.2.2.2.2.2.2
  unfold pfld at h
  cases hc : isC σ a ci with
  | false => rw [hc] at h; cases h
  | true =>
    rw [hc] at h
    obtain ⟨j, rfl, hj, hsh⟩ := isC_spec hc
    obtain ⟨f1, f2, f3, f4, f5⟩ := FT_ok _ hF
    dsimp only at f1 f2 f5
    have he : (wsO cA E σ ad)[j]? = some (ad j, .inr (ci, (List.range (nN ci)).map (fun k => fval E σ ad j (ft ci k) k))) := by rw [wsO_at hj, entE_obj hsh f1]
    have hrange : ∀ t, tgc σ j k = t ↔ ft ci k = t := fun t => by unfold tgc; rw [hsh, if_pos (by omega)]
    rw [Int.toNat_natCast] at h
    have hput : ∀ (σ2 : Sg) (v : Value), σ2.1 = σ.1 → σ2.2.1 = σ.2.1 → σ2.2.2.1 = σ.2.2.1 → (∀ i, i ≠ j → i < σ.1 → entE cA E σ2 ad i = entE cA E σ ad i) → (∀ i, i ≠ k → i < nN ci → fval E σ2 ad j (ft ci i) i = fval E σ ad j (ft ci i) i) → fval E σ2 ad j (ft ci k) k = v → okS σ2 → narrow (tyT ci k) v = v → fits (tyT ci k) v = true →
        KT p l e R s m args below meth c Q G cA E B0 nL cells slots ad σ (pc + 3) L S2 σ2 → W p l e R s m args below meth c H locs cells slots Q (F0 m pc ls (v :: .ref (ad j) :: S2.map (cv E ad))) := by
      intro σ2 v e1 e2 e3 e4 e5 e6 e7 e8 e9 kk
      have hent : entE cA E σ2 ad j = .inr (ci, ((List.range (nN ci)).map (fun k => fval E σ ad j (ft ci k) k)).set k v) := by
        rw [entE_obj (ci := ci) (by rw [e3]; exact hsh) f1, ← e6]
        rw [map_range_set (f := fun k => fval E σ ad j (ft ci k) k) (g := fun k => fval E σ2 ad j (ft ci k) k) f2 (fun i h1 h2 => e5 i h1 h2)]
      have hfin : ∀ (H1 : Heap) (locs1 : List Loc), va_P G vCl ((wsO cA E σ ad).set j (ad j, .inr (ci, ((List.range (nN ci)).map (fun k => fval E σ ad j (ft ci k) k)).set k v))) H1 → va_D B0 ((wsO cA E σ ad).set j (ad j, .inr (ci, ((List.range (nN ci)).map (fun k => fval E σ ad j (ft ci k) k)).set k v))) → va_S B0 s.heap H1 locs1 → W p l e R s m args below meth c H1 locs1 cells slots Q (F0 m (pc + 3) ls (S2.map (cv E ad))) := by
        intro H1 locs1 hP hD hS
        rw [← hent] at hP hD
        exact kk.cell hR e1 e2 hj e4 e7 (okt (okt hSok)) hP hD hS
      cases hfb : (TT ci k).2.2.2 with
      | false => exact va_put (D := G) (ci := ci) (C := Rn ci) (T := TT ci) (N := nN ci) (own := Rn (mi y).1) (ref := (TT ci k).1) hx hb hts (inT f1) (tyT ci) (tyT_ok ci f1) (nmT ci f1) hown hEV.1 hR.1 hR.2.1 hR.2.2.1 j he (vCl_at f1) k f2 (hts _ (tw_of (in_FT _ hF) rfl)) (fun _ h9 => h9) hfb (tyT_ok ci f1 k f2) e8 e9 (by simp; exact f2) hd hfin
      | true =>
        rcases hfi with z | ⟨z1, z2⟩
        · rw [z] at hfb; cases hfb
        · exact va_putF (D := G) (ci := ci) (C := Rn ci) (T := TT ci) (N := nN ci) (own := Rn (mi y).1) (ref := (TT ci k).1) hx hb hts (inT f1) (tyT ci) (tyT_ok ci f1) (nmT ci f1) hown hEV.1 hR.1 hR.2.1 hR.2.2.1 j he (vCl_at f1) k f2 (hts _ (tw_of (in_FT _ hF) rfl)) (fun _ h9 => h9) hfb (hin z1) (by rw [f5, z2]) (tyT_ok ci f1 k f2) e8 e9 (by simp; exact f2) hd hfin
    show W p l e R s m args below meth c H locs cells slots Q (F0 m pc ls (cv E ad q :: cv E ad (2, (j : Int)) :: S2.map (cv E ad)))
    rw [cv_ref]
    obtain ⟨t, x⟩ := q
    subst htg
    rcases ft_ty ci f1 k f2 with ⟨q, hty⟩ | ⟨q, hty⟩ | ⟨q, hty⟩ | ⟨q, hty⟩
    · rw [q] at h
      dsimp only [cond_true] at h
      cases hb0 : Nat.beq t 0 with
      | false => rw [hb0] at h; cases h
      | true =>
        rw [hb0] at h
        have := Nat.eq_of_beq_eq_true hb0
        subst this
        cases h
        exact hput (sPutV σ j k x) _ rfl rfl rfl (fun i h1 _ => entE_putV h1) (fun i h1 _ => fval_put h1) (by unfold fval; rw [q, if_neg (by omega), if_neg (by omega)]; show Value.int (Int32.ofInt (up σ.2.2.2.2 j k x j k)) = _; rw [up_k]; rfl) (okS_putV hR.2.2.2.2.1 (fun _ => by rw [(hrange 0).mpr q]; exact okh hSok)) (by rw [hty]; rfl) (by rw [hty]; rfl) kk
    · rw [q] at h
      dsimp only [cond_true] at h
      cases hb0 : Nat.beq t 1 with
      | false => rw [hb0] at h; cases h
      | true =>
        rw [hb0] at h
        have := Nat.eq_of_beq_eq_true hb0
        subst this
        cases h
        exact hput (sPutV σ j k x) _ rfl rfl rfl (fun i h1 _ => entE_putV h1) (fun i h1 _ => fval_put h1) (by unfold fval; rw [q, if_neg (by omega), if_pos rfl]; show Value.long (Int64.ofInt (up σ.2.2.2.2 j k x j k)) = _; rw [up_k]; rfl) (okS_putV hR.2.2.2.2.1 (fun _ => by rw [(hrange 1).mpr q]; exact okh hSok)) (by rw [hty]; rfl) (by rw [hty]; rfl) kk
    · rw [q] at h
      dsimp only [cond_true] at h
      cases hb0 : Nat.beq t 0 with
      | false => rw [hb0] at h; cases h
      | true =>
        rw [hb0] at h
        have := Nat.eq_of_beq_eq_true hb0
        subst this
        dsimp only [cond_true] at h
        by_cases h01 : x = 0 ∨ x = 1
        · rw [if_pos h01] at h
          cases h
          exact hput (sPutV σ j k x) _ rfl rfl rfl (fun i h1 _ => entE_putV h1) (fun i h1 _ => fval_put h1) (by unfold fval; rw [q, if_neg (by omega), if_neg (by omega)]; show Value.int (Int32.ofInt (up σ.2.2.2.2 j k x j k)) = _; rw [up_k]; rfl) (okS_putV hR.2.2.2.2.1 (fun _ => by rw [(hrange 4).mpr q]; exact h01)) (by rw [hty]; rcases h01 with rfl | rfl <;> rfl) (by rw [hty]; rcases h01 with rfl | rfl <;> rfl) kk
        · rw [if_neg h01] at h; cases h
    · rw [q] at h
      dsimp only [cond_true] at h
      cases hb0 : Nat.beq t 2 with
      | false => rw [hb0] at h; cases h
      | true =>
        rw [hb0] at h
        have := Nat.eq_of_beq_eq_true hb0
        subst this
        cases hdx : decide (-1 ≤ x) with
        | false => rw [hdx] at h; cases h
        | true =>
          rw [hdx] at h
          cases h
          have hfr2 := fits_ref hty (cvR_or hEV.2.2.2.2 ad x)
          exact hput (sPutR σ j k x) _ rfl rfl rfl (fun i h1 _ => entE_putR h1) (fun i h1 _ => fval_putR h1) (by unfold fval; rw [q, if_pos rfl]; show cvR E ad (up σ.2.2.2.1 j k x j k) = _; rw [up_k]; rfl) (okS_putR hR.2.2.2.2.1 ⟨of_decide_eq_true hdx, okh hSok⟩) hfr2.1 hfr2.2 kk
end STH
