/-! Arrays, new cells, constants, switches. Printed by wip/whole/gen/genarr.py. -/
theorem sB_r : ∀ l ∈ sB, (l.length < 20000 ∧ ∀ b ∈ l, -128 ≤ b ∧ b < 128) := by decide +kernel
theorem sB_len (t : Nat) : (sB.getD t []).length < 20000 := by
  rw [List.getD_eq_getElem?_getD]
  cases h : sB[t]? with
  | none => exact Nat.le_of_ble_eq_true rfl
  | some l => exact (sB_r l (List.mem_of_getElem? h)).1
theorem sB_byte (t j : Nat) : -128 ≤ (sB.getD t []).getD j 0 ∧ (sB.getD t []).getD j 0 < 128 := by
  rw [List.getD_eq_getElem?_getD, List.getD_eq_getElem?_getD]
  cases h : sB[t]? with
  | none => simp
  | some l =>
    show -128 ≤ (l[j]?).getD 0 ∧ (l[j]?).getD 0 < 128
    cases h2 : l[j]? with
    | none => exact ⟨by decide, by decide⟩
    | some b => exact (sB_r l (List.mem_of_getElem? h)).2 b (List.mem_of_getElem? h2)
theorem cvR_byt {E : EE} {ad : Nat → Nat} {a : Int} {t : Nat} (h : bytOf nS a = some t) : cvR E ad a = .ref (E.2.1 t) ∧ t < nS := by
  have h' := h
  unfold bytOf at h
  split at h
  · rename_i hc
    cases h
    have hn : nS = 44 := rfl
    rw [hn] at hc ⊢
    unfold cvR
    rw [if_neg (by omega), if_neg (by omega)]
    have hs : strOf nS a = none := by
      unfold strOf
      rw [hn, if_neg (by omega)]
    rw [hs, h']
    exact ⟨by rw [hn], by omega⟩
  · cases h
theorem cvR_str {E : EE} {ad : Nat → Nat} {a : Int} {t : Nat} (h : strOf nS a = some t) : cvR E ad a = .ref (E.1 t) ∧ t < nS := by
  have h' := h
  unfold strOf at h
  split at h
  · rename_i hc
    cases h
    have hn : nS = 44 := rfl
    rw [hn] at hc ⊢
    unfold cvR
    rw [if_neg (by omega), if_neg (by omega), h']
    exact ⟨rfl, by omega⟩
  · cases h
theorem str_of {j : Nat} (h : j < nS) : strOf nS (-2 - (j : Int)) = some j := by
  unfold strOf
  have hn : nS = 44 := rfl
  rw [hn] at h ⊢
  rw [if_pos (by omega)]
  congr 1
  omega
theorem byt_of {j : Nat} (h : j < nS) : bytOf nS (-2 - (nS : Int) - (j : Int)) = some j := by
  unfold bytOf
  have hn : nS = 44 := rfl
  rw [hn] at h ⊢
  rw [if_pos (by omega)]
  congr 1
  omega
theorem catS_eq {E : EE} (hE : E.2.2 = .null ∨ ∃ t, E.2.2 = .ref t) (ad : Nat → Nat) (S : List AV) : ((S.map (cv E ad)).map fun v => v.category).sum = catS S := by
  induction S with
  | nil => rfl
  | cons q S ih =>
    rw [List.map_cons, List.map_cons, List.sum_cons, ih]
    show _ = (bif Nat.beq q.1 1 then 2 else 1) + catS S
    cases hb : Nat.beq q.1 1 with
    | true => rw [cv_cat2 (Nat.eq_of_beq_eq_true hb)]; rfl
    | false => rw [cv_cat hE (fun e1 => by rw [e1] at hb; cases hb)]; rfl
theorem tsw_out {lo dflt x : Int} {ts : List Int} (h : x < lo ∨ lo + (ts.length : Int) ≤ x) : tsw lo ts dflt x = dflt := by
  induction ts generalizing lo with
  | nil => rfl
  | cons t ts ih =>
    unfold tsw
    rw [List.length_cons] at h
    rw [if_neg (by omega)]
    exact ih (by omega)
theorem tsw_in {lo dflt x : Int} {ts : List Int} (h1 : lo ≤ x) (h2 : x < lo + (ts.length : Int)) : ts[(x - lo).toNat]? = some (tsw lo ts dflt x) := by
  induction ts generalizing lo with
  | nil => exact absurd h2 (by simp; omega)
  | cons t ts ih =>
    unfold tsw
    rw [List.length_cons] at h2
    by_cases h : x = lo
    · rw [if_pos h, h, Int.sub_self]; rfl
    · rw [if_neg h]
      have h3 := ih (lo := lo + 1) (by omega) (by omega)
      have : (x - lo).toNat = (x - (lo + 1)).toNat + 1 := by omega
      rw [this, List.getElem?_cons_succ]
      exact h3
theorem lsw_eq (pc dflt x : Int) (ps : List (Int × Int)) : lsw (flat2 pc ps) (pc + dflt) x = pc + Op.lookupswitch.offset ps dflt x := by
  induction ps with
  | nil => rfl
  | cons q ps ih =>
    obtain ⟨a, b⟩ := q
    rw [Op.lookupswitch.offset_cons]
    show (if x = a then pc + b else lsw (flat2 pc ps) (pc + dflt) x) = _
    by_cases h : x = a
    · rw [if_pos h, if_pos h.symm]
    · rw [if_neg h, if_neg (Ne.symm h), ih]
theorem nar_b (x : Int) : vp_nar .byte (Int32.ofInt x) = Int32.ofInt (w8 x) := by rw [vp_nar_byte, i2b_]
theorem nar_z {x : Int} (h : x = 0 ∨ x = 1) : vp_nar .boolean (Int32.ofInt x) = Int32.ofInt x := by rcases h with rfl | rfl <;> rfl
section STA
variable {p : Program} {l : Launch} {e : Env} {R : Room} {s : State} {m : MethodId} {args : Array Value} {below : List Frame} {meth : Method} {c : Code} {H : Heap} {locs : List Loc} {cells slots : Nat} {Q : State → Prop} {G : va_G} {cA : Nat → ClassId} {E : EE} {B0 : Nat → Prop} {y d nL : Nat} {ad : Nat → Nat} {σ : Sg} {ls : Array Slot} {L S : List AV} {pc : Nat}
theorem tg_arr {j t k : Nat} (h : (σ.2.2.1 j).1 = 100 + t) (ht : t < 4) : tgc σ j k = (if t = 0 then 4 else if t = 1 then 5 else if t = 2 then 0 else 1) := by
  unfold tgc
  rw [h, if_neg (by omega)]
  match t, ht with
  | 0, _ => rfl
  | 1, _ => rfl
  | 2, _ => rfl
  | 3, _ => rfl
  | n + 4, h => omega
theorem st_iaload {r : List Int} {pc1 : Nat} {L1 S1 : List AV} {σ1 : Sg} (C : CX p R s m args meth c y d G cA E B0) (he : (pc, (.iaload : Instr), r) ∈ cod y) (h : stp nS sB (.iaload) r pc L S σ = some (pc1, L1, S1, σ1)) (hnL : nL = mL y) (hR : REL G cA E B0 s.heap nL ad σ H locs ls L S) (kk : KT p l e R s m args below meth c Q G cA E B0 nL cells slots ad σ pc1 L1 S1 σ1) : W p l e R s m args below meth c H locs cells slots Q (F0 m pc ls (S.map (cv E ad))) := by
  obtain ⟨hx, hb, hml, hown, hts, hin, hEV, hB0, hfr, hlo⟩ := C
  have hok := ok_all he
  have hok' := (Bool.and_eq_true _ _).mp hok.2
  have hd : decode (bc y) pc = .ok (.iaload, lenI (.iaload) r) := of_decide_eq_true hok'.1
  have hres : resB (mi y).1 (isIn y) pc (.iaload) r = true := hok'.2
  have hSok := hR.2.2.2.2.2.2
  unfold stp at h
  dsimp only at h
  have h9 := bI_some h
  clear h
  obtain ⟨i, S2, rfl, h⟩ := h9
  have h9 := bR_some h
  clear h
  obtain ⟨a, S3, rfl, h⟩ := h9
  obtain ⟨hc, h⟩ := bif0_some h
  obtain ⟨j, rfl, hj, hsh⟩ := isC_spec hc
  obtain ⟨hbnd, h⟩ := guardP_some h
  rw [Int.toNat_natCast] at hbnd h
  cases h
  have hbd : 0 ≤ i ∧ i < ((σ.2.2.1 j).2 : Int) := hbnd
  have hsz := (hR.2.2.2.2.1 j hj).2.1
  show W p l e R s m args below meth c H locs cells slots Q (F0 m pc ls (.int (Int32.ofInt i) :: cv E ad (2, (j : Int)) :: S3.map (cv E ad)))
  rw [cv_ref]
  refine va_iald (D := G) (cl := vCl) hx hb hEV.1 hR.1 j 2 (cA := cA 2) (n := (σ.2.2.1 j).2) (f := fun i => Int32.ofInt (σ.2.2.2.2 j i)) (by rw [wsO_at hj, entE_i (t := 2) hsh (by decide)]) rfl (vp_inI hbd hsz) hd ?_
  rw [cl32 (by omega) (by omega)]
  have h9 := ((hR.2.2.2.2.1 j hj).2.2 i.toNat).2 (by rw [tg_arr (t := 2) hsh (by decide)]; decide)
  rw [tg_arr (t := 2) hsh (by decide)] at h9
  exact kk.stk hR (okc (show okA σ.1 (0, _) from h9) (okt (okt hSok)))
theorem st_laload {r : List Int} {pc1 : Nat} {L1 S1 : List AV} {σ1 : Sg} (C : CX p R s m args meth c y d G cA E B0) (he : (pc, (.laload : Instr), r) ∈ cod y) (h : stp nS sB (.laload) r pc L S σ = some (pc1, L1, S1, σ1)) (hnL : nL = mL y) (hR : REL G cA E B0 s.heap nL ad σ H locs ls L S) (kk : KT p l e R s m args below meth c Q G cA E B0 nL cells slots ad σ pc1 L1 S1 σ1) : W p l e R s m args below meth c H locs cells slots Q (F0 m pc ls (S.map (cv E ad))) := by
  obtain ⟨hx, hb, hml, hown, hts, hin, hEV, hB0, hfr, hlo⟩ := C
  have hok := ok_all he
  have hok' := (Bool.and_eq_true _ _).mp hok.2
  have hd : decode (bc y) pc = .ok (.laload, lenI (.laload) r) := of_decide_eq_true hok'.1
  have hres : resB (mi y).1 (isIn y) pc (.laload) r = true := hok'.2
  have hSok := hR.2.2.2.2.2.2
  unfold stp at h
  dsimp only at h
  have h9 := bI_some h
  clear h
  obtain ⟨i, S2, rfl, h⟩ := h9
  have h9 := bR_some h
  clear h
  obtain ⟨a, S3, rfl, h⟩ := h9
  obtain ⟨hc, h⟩ := bif0_some h
  obtain ⟨j, rfl, hj, hsh⟩ := isC_spec hc
  obtain ⟨hbnd, h⟩ := guardP_some h
  rw [Int.toNat_natCast] at hbnd h
  cases h
  have hbd : 0 ≤ i ∧ i < ((σ.2.2.1 j).2 : Int) := hbnd
  have hsz := (hR.2.2.2.2.1 j hj).2.1
  show W p l e R s m args below meth c H locs cells slots Q (F0 m pc ls (.int (Int32.ofInt i) :: cv E ad (2, (j : Int)) :: S3.map (cv E ad)))
  rw [cv_ref]
  refine va_lald (D := G) (cl := vCl) hx hb hEV.1 hR.1 j 3 (cA := cA 3) (n := (σ.2.2.1 j).2) (f := fun i => Int64.ofInt (σ.2.2.2.2 j i)) (by rw [wsO_at hj, entE_l hsh]) rfl (vp_inI hbd hsz) hd ?_
  rw [cl32 (by omega) (by omega)]
  have h9 := ((hR.2.2.2.2.1 j hj).2.2 i.toNat).2 (by rw [tg_arr (t := 3) hsh (by decide)]; decide)
  rw [tg_arr (t := 3) hsh (by decide)] at h9
  exact kk.stk hR (okc (show okA σ.1 (1, _) from h9) (okt (okt hSok)))
theorem st_baload {r : List Int} {pc1 : Nat} {L1 S1 : List AV} {σ1 : Sg} (C : CX p R s m args meth c y d G cA E B0) (he : (pc, (.baload : Instr), r) ∈ cod y) (h : stp nS sB (.baload) r pc L S σ = some (pc1, L1, S1, σ1)) (hnL : nL = mL y) (hR : REL G cA E B0 s.heap nL ad σ H locs ls L S) (kk : KT p l e R s m args below meth c Q G cA E B0 nL cells slots ad σ pc1 L1 S1 σ1) : W p l e R s m args below meth c H locs cells slots Q (F0 m pc ls (S.map (cv E ad))) := by
  obtain ⟨hx, hb, hml, hown, hts, hin, hEV, hB0, hfr, hlo⟩ := C
  have hok := ok_all he
  have hok' := (Bool.and_eq_true _ _).mp hok.2
  have hd : decode (bc y) pc = .ok (.baload, lenI (.baload) r) := of_decide_eq_true hok'.1
  have hres : resB (mi y).1 (isIn y) pc (.baload) r = true := hok'.2
  have hSok := hR.2.2.2.2.2.2
  unfold stp at h
  dsimp only at h
  have h9 := bI_some h
  clear h
  obtain ⟨i, S2, rfl, h⟩ := h9
  have h9 := bR_some h
  clear h
  obtain ⟨a, S3, rfl, h⟩ := h9
  have hi : -2147483648 ≤ i ∧ i < 2147483648 := okh hSok
  cases hbt : bytOf nS a with
  | some t =>
    rw [hbt] at h
    obtain ⟨hbnd, h⟩ := guardP_some h
    cases h
    have hbd : 0 ≤ i ∧ i < (((sB.getD t []).length : Nat) : Int) := hbnd
    have hsz := sB_len t
    show W p l e R s m args below meth c H locs cells slots Q (F0 m pc ls (.int (Int32.ofInt i) :: cvR E ad a :: S3.map (cv E ad)))
    obtain ⟨e1, e2⟩ := cvR_byt (E := E) (ad := ad) hbt
    rw [e1]
    refine va_tb (A := B0) hx hb (hEV.2.1 t e2).2.2.2.1 hR.2.2.1 (vp_inI hbd hsz) (v := .int (Int32.ofInt ((sB.getD t []).getD i.toNat 0))) (by rw [cl32 (by omega) (by omega)]) hd ?_
    have := sB_byte t i.toNat
    exact kk.stk hR (okc (show _ ∧ _ from ⟨by omega, by omega⟩) (okt (okt hSok)))
  | none =>
    rw [hbt] at h
    obtain ⟨hc, h⟩ := bif0_some h
    rw [Bool.or_eq_true] at hc
    obtain ⟨hbnd, h⟩ := guardP_some h
    rcases hc with hc | hc
    · obtain ⟨j, rfl, hj, hsh⟩ := isC_spec hc
      rw [Int.toNat_natCast] at hbnd h
      cases h
      have hbd : 0 ≤ i ∧ i < ((σ.2.2.1 j).2 : Int) := hbnd
      have hsz := (hR.2.2.2.2.1 j hj).2.1
      show W p l e R s m args below meth c H locs cells slots Q (F0 m pc ls (.int (Int32.ofInt i) :: cv E ad (2, (j : Int)) :: S3.map (cv E ad)))
      rw [cv_ref]
      refine va_zald (D := G) (cl := vCl) hx hb hEV.1 hR.1 j 0 (cA := cA 0) (n := (σ.2.2.1 j).2) (f := fun i => Int32.ofInt (σ.2.2.2.2 j i)) (by rw [wsO_at hj, entE_i (t := 0) hsh (by decide)]) rfl (vp_inI hbd hsz) hd ?_
      rw [cl32 (by omega) (by omega)]
      have h9 := ((hR.2.2.2.2.1 j hj).2.2 i.toNat).2 (by rw [tg_arr (t := 0) hsh (by decide)]; decide)
      rw [tg_arr (t := 0) hsh (by decide)] at h9
      have h9 : σ.2.2.2.2 j i.toNat = 0 ∨ σ.2.2.2.2 j i.toNat = 1 := h9
      exact kk.stk hR (okc (show _ ∧ _ from ⟨by omega, by omega⟩) (okt (okt hSok)))
    · obtain ⟨j, rfl, hj, hsh⟩ := isC_spec hc
      rw [Int.toNat_natCast] at hbnd h
      cases h
      have hbd : 0 ≤ i ∧ i < ((σ.2.2.1 j).2 : Int) := hbnd
      have hsz := (hR.2.2.2.2.1 j hj).2.1
      show W p l e R s m args below meth c H locs cells slots Q (F0 m pc ls (.int (Int32.ofInt i) :: cv E ad (2, (j : Int)) :: S3.map (cv E ad)))
      rw [cv_ref]
      refine va_bald (D := G) (cl := vCl) hx hb hEV.1 hR.1 j 1 (cA := cA 1) (n := (σ.2.2.1 j).2) (f := fun i => Int32.ofInt (σ.2.2.2.2 j i)) (by rw [wsO_at hj, entE_i (t := 1) hsh (by decide)]) rfl (vp_inI hbd hsz) hd ?_
      rw [cl32 (by omega) (by omega)]
      have h9 := ((hR.2.2.2.2.1 j hj).2.2 i.toNat).2 (by rw [tg_arr (t := 1) hsh (by decide)]; decide)
      rw [tg_arr (t := 1) hsh (by decide)] at h9
      have h9 : -128 ≤ σ.2.2.2.2 j i.toNat ∧ σ.2.2.2.2 j i.toNat < 128 := h9
      exact kk.stk hR (okc (show _ ∧ _ from ⟨by omega, by omega⟩) (okt (okt hSok)))
theorem st_iastore {r : List Int} {pc1 : Nat} {L1 S1 : List AV} {σ1 : Sg} (C : CX p R s m args meth c y d G cA E B0) (he : (pc, (.iastore : Instr), r) ∈ cod y) (h : stp nS sB (.iastore) r pc L S σ = some (pc1, L1, S1, σ1)) (hnL : nL = mL y) (hR : REL G cA E B0 s.heap nL ad σ H locs ls L S) (kk : KT p l e R s m args below meth c Q G cA E B0 nL cells slots ad σ pc1 L1 S1 σ1) : W p l e R s m args below meth c H locs cells slots Q (F0 m pc ls (S.map (cv E ad))) := by
  obtain ⟨hx, hb, hml, hown, hts, hin, hEV, hB0, hfr, hlo⟩ := C
  have hok := ok_all he
  have hok' := (Bool.and_eq_true _ _).mp hok.2
  have hd : decode (bc y) pc = .ok (.iastore, lenI (.iastore) r) := of_decide_eq_true hok'.1
  have hres : resB (mi y).1 (isIn y) pc (.iastore) r = true := hok'.2
  have hSok := hR.2.2.2.2.2.2
  unfold stp at h
  dsimp only at h
  have h9 := bI_some h
  clear h
  obtain ⟨x, S2, rfl, h⟩ := h9
  have h9 := bI_some h
  clear h
  obtain ⟨i, S3, rfl, h⟩ := h9
  have h9 := bR_some h
  clear h
  obtain ⟨a, S4, rfl, h⟩ := h9
  obtain ⟨hc, h⟩ := bif0_some h
  obtain ⟨hbnd, h⟩ := guardP_some h
  obtain ⟨j, rfl, hj, hsh⟩ := isC_spec hc
  rw [Int.toNat_natCast] at hbnd h
  cases h
  have hbd : 0 ≤ i ∧ i < ((σ.2.2.1 j).2 : Int) := hbnd
  have hsz := (hR.2.2.2.2.1 j hj).2.1
  show W p l e R s m args below meth c H locs cells slots Q (F0 m pc ls (.int (Int32.ofInt x) :: .int (Int32.ofInt i) :: cv E ad (2, (j : Int)) :: S1.map (cv E ad)))
  rw [cv_ref]
  refine va_iast (D := G) (cl := vCl) hx hb hEV.1 hR.1 hR.2.1 hR.2.2.1 j 2 (cA := cA 2) (n := (σ.2.2.1 j).2) (f := fun i => Int32.ofInt (σ.2.2.2.2 j i)) (by rw [wsO_at hj, entE_i (t := 2) hsh (by decide)]) rfl (vp_inI hbd hsz) hd (fun H1 locs1 hP hD hS => ?_)
  rw [upd_ofInt hbd.1 (by omega) rfl] at hP hD
  refine kk.cell (k := j) hR rfl rfl hj (fun k h1 _ => entE_putV h1) (okS_putV hR.2.2.2.2.1 (fun _ => ?_)) (okt (okt (okt hSok))) ?_ ?_ hS
  · rw [tg_arr (t := 2) hsh (by decide)]
    exact okh hSok
  · rw [entE_i (σ := sPutV σ j i.toNat x) (t := 2) hsh (by decide)]; exact hP
  · rw [entE_i (σ := sPutV σ j i.toNat x) (t := 2) hsh (by decide)]; exact hD
theorem st_lastore {r : List Int} {pc1 : Nat} {L1 S1 : List AV} {σ1 : Sg} (C : CX p R s m args meth c y d G cA E B0) (he : (pc, (.lastore : Instr), r) ∈ cod y) (h : stp nS sB (.lastore) r pc L S σ = some (pc1, L1, S1, σ1)) (hnL : nL = mL y) (hR : REL G cA E B0 s.heap nL ad σ H locs ls L S) (kk : KT p l e R s m args below meth c Q G cA E B0 nL cells slots ad σ pc1 L1 S1 σ1) : W p l e R s m args below meth c H locs cells slots Q (F0 m pc ls (S.map (cv E ad))) := by
  obtain ⟨hx, hb, hml, hown, hts, hin, hEV, hB0, hfr, hlo⟩ := C
  have hok := ok_all he
  have hok' := (Bool.and_eq_true _ _).mp hok.2
  have hd : decode (bc y) pc = .ok (.lastore, lenI (.lastore) r) := of_decide_eq_true hok'.1
  have hres : resB (mi y).1 (isIn y) pc (.lastore) r = true := hok'.2
  have hSok := hR.2.2.2.2.2.2
  unfold stp at h
  dsimp only at h
  have h9 := bJ_some h
  clear h
  obtain ⟨x, S2, rfl, h⟩ := h9
  have h9 := bI_some h
  clear h
  obtain ⟨i, S3, rfl, h⟩ := h9
  have h9 := bR_some h
  clear h
  obtain ⟨a, S4, rfl, h⟩ := h9
  obtain ⟨hc, h⟩ := bif0_some h
  obtain ⟨hbnd, h⟩ := guardP_some h
  obtain ⟨j, rfl, hj, hsh⟩ := isC_spec hc
  rw [Int.toNat_natCast] at hbnd h
  cases h
  have hbd : 0 ≤ i ∧ i < ((σ.2.2.1 j).2 : Int) := hbnd
  have hsz := (hR.2.2.2.2.1 j hj).2.1
  show W p l e R s m args below meth c H locs cells slots Q (F0 m pc ls (.long (Int64.ofInt x) :: .int (Int32.ofInt i) :: cv E ad (2, (j : Int)) :: S1.map (cv E ad)))
  rw [cv_ref]
  refine va_last (D := G) (cl := vCl) hx hb hEV.1 hR.1 hR.2.1 hR.2.2.1 j 3 (cA := cA 3) (n := (σ.2.2.1 j).2) (f := fun i => Int64.ofInt (σ.2.2.2.2 j i)) (by rw [wsO_at hj, entE_l hsh]) rfl (vp_inI hbd hsz) hd (fun H1 locs1 hP hD hS => ?_)
  rw [updL_ofInt hbd.1 (by omega)] at hP hD
  refine kk.cell (k := j) hR rfl rfl hj (fun k h1 _ => entE_putV h1) (okS_putV hR.2.2.2.2.1 (fun _ => ?_)) (okt (okt (okt hSok))) ?_ ?_ hS
  · rw [tg_arr (t := 3) hsh (by decide)]
    exact okh hSok
  · rw [entE_l (σ := sPutV σ j i.toNat x) hsh]; exact hP
  · rw [entE_l (σ := sPutV σ j i.toNat x) hsh]; exact hD
theorem st_bastore {r : List Int} {pc1 : Nat} {L1 S1 : List AV} {σ1 : Sg} (C : CX p R s m args meth c y d G cA E B0) (he : (pc, (.bastore : Instr), r) ∈ cod y) (h : stp nS sB (.bastore) r pc L S σ = some (pc1, L1, S1, σ1)) (hnL : nL = mL y) (hR : REL G cA E B0 s.heap nL ad σ H locs ls L S) (kk : KT p l e R s m args below meth c Q G cA E B0 nL cells slots ad σ pc1 L1 S1 σ1) : W p l e R s m args below meth c H locs cells slots Q (F0 m pc ls (S.map (cv E ad))) := by
  obtain ⟨hx, hb, hml, hown, hts, hin, hEV, hB0, hfr, hlo⟩ := C
  have hok := ok_all he
  have hok' := (Bool.and_eq_true _ _).mp hok.2
  have hd : decode (bc y) pc = .ok (.bastore, lenI (.bastore) r) := of_decide_eq_true hok'.1
  have hres : resB (mi y).1 (isIn y) pc (.bastore) r = true := hok'.2
  have hSok := hR.2.2.2.2.2.2
  unfold stp at h
  dsimp only at h
  have h9 := bI_some h
  clear h
  obtain ⟨x, S2, rfl, h⟩ := h9
  have h9 := bI_some h
  clear h
  obtain ⟨i, S3, rfl, h⟩ := h9
  have h9 := bR_some h
  clear h
  obtain ⟨a, S4, rfl, h⟩ := h9
  cases hc : isC σ a 101 with
  | true =>
    rw [hc] at h
    obtain ⟨hbnd, h⟩ := guardP_some h
    obtain ⟨j, rfl, hj, hsh⟩ := isC_spec hc
    rw [Int.toNat_natCast] at hbnd h
    cases h
    have hbd : 0 ≤ i ∧ i < ((σ.2.2.1 j).2 : Int) := hbnd
    have hsz := (hR.2.2.2.2.1 j hj).2.1
    show W p l e R s m args below meth c H locs cells slots Q (F0 m pc ls (.int (Int32.ofInt x) :: .int (Int32.ofInt i) :: cv E ad (2, (j : Int)) :: S1.map (cv E ad)))
    rw [cv_ref]
    refine va_bast (D := G) (cl := vCl) hx hb hEV.1 hR.1 hR.2.1 hR.2.2.1 j 1 (cA := cA 1) (n := (σ.2.2.1 j).2) (f := fun i => Int32.ofInt (σ.2.2.2.2 j i)) (by rw [wsO_at hj, entE_i (t := 1) hsh (by decide)]) rfl (vp_inI hbd hsz) hd (fun H1 locs1 hP hD hS => ?_)
    rw [upd_ofInt hbd.1 (by omega) (nar_b x)] at hP hD
    refine kk.cell (k := j) hR rfl rfl hj (fun k h1 _ => entE_putV h1) (okS_putV hR.2.2.2.2.1 (fun _ => ?_)) (okt (okt (okt hSok))) ?_ ?_ hS
    · rw [tg_arr (t := 1) hsh (by decide)]
      exact w8_r x
    · rw [entE_i (σ := sPutV σ j i.toNat (w8 x)) (t := 1) hsh (by decide)]; exact hP
    · rw [entE_i (σ := sPutV σ j i.toNat (w8 x)) (t := 1) hsh (by decide)]; exact hD
  | false =>
    rw [hc] at h
    obtain ⟨hc, h⟩ := bif0_some h
    obtain ⟨hbnd, h⟩ := guardP_some h
    obtain ⟨h01, h⟩ := guardP_some h
    obtain ⟨j, rfl, hj, hsh⟩ := isC_spec hc
    rw [Int.toNat_natCast] at hbnd h
    cases h
    have hbd : 0 ≤ i ∧ i < ((σ.2.2.1 j).2 : Int) := hbnd
    have hsz := (hR.2.2.2.2.1 j hj).2.1
    show W p l e R s m args below meth c H locs cells slots Q (F0 m pc ls (.int (Int32.ofInt x) :: .int (Int32.ofInt i) :: cv E ad (2, (j : Int)) :: S1.map (cv E ad)))
    rw [cv_ref]
    refine va_zast (D := G) (cl := vCl) hx hb hEV.1 hR.1 hR.2.1 hR.2.2.1 j 0 (cA := cA 0) (n := (σ.2.2.1 j).2) (f := fun i => Int32.ofInt (σ.2.2.2.2 j i)) (by rw [wsO_at hj, entE_i (t := 0) hsh (by decide)]) rfl (vp_inI hbd hsz) hd (fun H1 locs1 hP hD hS => ?_)
    rw [upd_ofInt hbd.1 (by omega) (nar_z h01)] at hP hD
    refine kk.cell (k := j) hR rfl rfl hj (fun k h1 _ => entE_putV h1) (okS_putV hR.2.2.2.2.1 (fun _ => ?_)) (okt (okt (okt hSok))) ?_ ?_ hS
    · rw [tg_arr (t := 0) hsh (by decide)]
      exact h01
    · rw [entE_i (σ := sPutV σ j i.toNat x) (t := 0) hsh (by decide)]; exact hP
    · rw [entE_i (σ := sPutV σ j i.toNat x) (t := 0) hsh (by decide)]; exact hD
theorem st_arraylength {r : List Int} {pc1 : Nat} {L1 S1 : List AV} {σ1 : Sg} (C : CX p R s m args meth c y d G cA E B0) (he : (pc, (.arraylength : Instr), r) ∈ cod y) (h : stp nS sB (.arraylength) r pc L S σ = some (pc1, L1, S1, σ1)) (hnL : nL = mL y) (hR : REL G cA E B0 s.heap nL ad σ H locs ls L S) (kk : KT p l e R s m args below meth c Q G cA E B0 nL cells slots ad σ pc1 L1 S1 σ1) : W p l e R s m args below meth c H locs cells slots Q (F0 m pc ls (S.map (cv E ad))) := by
  obtain ⟨hx, hb, hml, hown, hts, hin, hEV, hB0, hfr, hlo⟩ := C
  have hok := ok_all he
  have hok' := (Bool.and_eq_true _ _).mp hok.2
  have hd : decode (bc y) pc = .ok (.arraylength, lenI (.arraylength) r) := of_decide_eq_true hok'.1
  have hres : resB (mi y).1 (isIn y) pc (.arraylength) r = true := hok'.2
  have hSok := hR.2.2.2.2.2.2
  unfold stp at h
  dsimp only at h
  have h9 := bR_some h
  clear h
  obtain ⟨a, S3, rfl, h⟩ := h9
  cases hbt : bytOf nS a with
  | some t =>
    rw [hbt] at h
    cases h
    show W p l e R s m args below meth c H locs cells slots Q (F0 m pc ls (cvR E ad a :: S3.map (cv E ad)))
    obtain ⟨e1, e2⟩ := cvR_byt (E := E) (ad := ad) hbt
    rw [e1]
    have hsz := sB_len t
    refine va_tlen (A := B0) hx hb (hEV.2.1 t e2).2.2.2.1 hR.2.2.1 (v := Int32.ofInt (((sB.getD t []).length : Nat) : Int)) (by rw [Int32.ofInt_eq_ofNat]) hd ?_
    exact kk.stk hR (okc (show _ ∧ _ from ⟨by omega, by omega⟩) (okt hSok))
  | none =>
    rw [hbt] at h
    obtain ⟨hc, h⟩ := bif0_some h
    rw [Bool.or_eq_true, Bool.or_eq_true, Bool.or_eq_true] at hc
    have hgo : ∀ (j t : Nat) (x : vp_A) (ty : FieldType), a = (j : Int) → j < σ.1 → entE cA E σ ad j = .inl (cA t, x) → x.1 = (σ.2.2.1 j).2 → (aTys cA)[t]? = some (cA t, ty) → W p l e R s m args below meth c H locs cells slots Q (F0 m pc ls (S3.map (cv E ad) |>.cons (cvR E ad a))) := by
      intro j t x ty ea hj he hx1 hty
      subst ea
      rw [Int.toNat_natCast] at h
      cases h
      have hsz := (hR.2.2.2.2.1 j hj).2.1
      have e1 : cvR E ad (j : Int) = .ref (ad j) := (cv_ref : cv E ad (2, (j : Int)) = .ref (ad j))
      rw [e1]
      refine va_alen (D := G) (cl := vCl) hx hb hEV.1 hR.1 j t (cA := cA t) (x := x) (by rw [wsO_at hj, he]) hty (v := Int32.ofInt (((σ.2.2.1 j).2 : Nat) : Int)) (by rw [hx1, Int32.ofInt_eq_ofNat]) hd ?_
      exact kk.stk hR (okc (show _ ∧ _ from ⟨by show _ ≤ ((_ : Nat) : Int); omega, by show ((_ : Nat) : Int) < _; omega⟩) (okt hSok))
    rcases hc with ((hc | hc) | hc) | hc
    · obtain ⟨j, ea, hj, hsh⟩ := isC_spec hc
      exact hgo j 0 _ .boolean ea hj (entE_i (t := 0) hsh (by decide)) rfl rfl
    · obtain ⟨j, ea, hj, hsh⟩ := isC_spec hc
      exact hgo j 1 _ .byte ea hj (entE_i (t := 1) hsh (by decide)) rfl rfl
    · obtain ⟨j, ea, hj, hsh⟩ := isC_spec hc
      exact hgo j 2 _ .int ea hj (entE_i (t := 2) hsh (by decide)) rfl rfl
    · obtain ⟨j, ea, hj, hsh⟩ := isC_spec hc
      exact hgo j 3 _ .long ea hj (entE_l hsh) rfl rfl
theorem st_tableswitch {dflt lo hi : Int} {offs : Array Int} {r : List Int} {pc1 : Nat} {L1 S1 : List AV} {σ1 : Sg} (C : CX p R s m args meth c y d G cA E B0) (he : (pc, (.tableswitch dflt lo hi offs : Instr), r) ∈ cod y) (h : stp nS sB (.tableswitch dflt lo hi offs) r pc L S σ = some (pc1, L1, S1, σ1)) (hnL : nL = mL y) (hR : REL G cA E B0 s.heap nL ad σ H locs ls L S) (kk : KT p l e R s m args below meth c Q G cA E B0 nL cells slots ad σ pc1 L1 S1 σ1) : W p l e R s m args below meth c H locs cells slots Q (F0 m pc ls (S.map (cv E ad))) := by
  obtain ⟨hx, hb, hml, hown, hts, hin, hEV, hB0, hfr, hlo⟩ := C
  have hok := ok_all he
  have hok' := (Bool.and_eq_true _ _).mp hok.2
  have hd : decode (bc y) pc = .ok (.tableswitch dflt lo hi offs, lenI (.tableswitch dflt lo hi offs) r) := of_decide_eq_true hok'.1
  have hres : resB (mi y).1 (isIn y) pc (.tableswitch dflt lo hi offs) r = true := hok'.2
  have hSok := hR.2.2.2.2.2.2
  unfold stp at h
  dsimp only at h
  have hh := h
  clear h
  match r, hh, hres, he, hd with
  | [], h, _, _, _ => cases h
  | [_], h, _, _, _ => cases h
  | [_, _], h, _, _, _ => cases h
  | ln :: lo' :: df :: ts, h, hres, he, hd =>
    have hres' : (lo' == lo && df == (pc : Int) + dflt && ts == offs.toList.map (fun q => (pc : Int) + q) && hi + 1 - lo == (ts.length : Int) && decide (0 ≤ df) && ts.all (fun t => decide (0 ≤ t))) = true := hres
    simp only [Bool.and_eq_true, beq_iff_eq, decide_eq_true_eq, List.all_eq_true] at hres'
    obtain ⟨⟨⟨⟨⟨rfl, r2⟩, r3⟩, r4⟩, r5⟩, r6⟩ := hres'
    have h9 := bI_some h
    clear h
    obtain ⟨a, S3, rfl, h⟩ := h9
    cases h
    have ha : -2147483648 ≤ a ∧ a < 2147483648 := okh hSok
    by_cases hout : a < lo' ∨ hi < a
    · have e1 : tsw lo' ts df a = df := tsw_out (by omega)
      rw [e1] at kk
      exact lv_tableOut (x := Int32.ofInt a) (tgt := df.toNat) hx hb hd (by rw [t32 ha.1 ha.2]; exact hout) (by omega) (kk.stk hR (okt hSok))
    · have h3 := tsw_in (lo := lo') (dflt := df) (ts := ts) (x := a) (by omega) (by omega)
      have hpos : 0 ≤ tsw lo' ts df a := r6 _ (List.mem_of_getElem? h3)
      have h4 : ∃ off, offs[(a - lo').toNat]? = some off ∧ (pc : Int) + off = tsw lo' ts df a := by
        rw [r3, List.getElem?_map] at h3
        cases ho : offs.toList[(a - lo').toNat]? with
        | none => rw [ho] at h3; cases h3
        | some off =>
          rw [ho] at h3
          refine ⟨off, by rw [← Array.getElem?_toList]; exact ho, ?_⟩
          have h3 : some ((pc : Int) + off) = some (tsw lo' (offs.toList.map (fun q => (pc : Int) + q)) df a) := h3
          rw [← r3] at h3
          exact Option.some.inj h3
      obtain ⟨off, h5, h6⟩ := h4
      exact lv_tableIn (x := Int32.ofInt a) (off := off) (tgt := (tsw lo' ts df a).toNat) hx hb hd (by rw [t32 ha.1 ha.2]; omega) (by rw [t32 ha.1 ha.2]; omega) (by rw [t32 ha.1 ha.2]; exact h5) (by omega) (kk.stk hR (okt hSok))
theorem st_lookupswitch {dflt : Int} {ps : Array (Int × Int)} {r : List Int} {pc1 : Nat} {L1 S1 : List AV} {σ1 : Sg} (C : CX p R s m args meth c y d G cA E B0) (he : (pc, (.lookupswitch dflt ps : Instr), r) ∈ cod y) (h : stp nS sB (.lookupswitch dflt ps) r pc L S σ = some (pc1, L1, S1, σ1)) (hnL : nL = mL y) (hR : REL G cA E B0 s.heap nL ad σ H locs ls L S) (kk : KT p l e R s m args below meth c Q G cA E B0 nL cells slots ad σ pc1 L1 S1 σ1) : W p l e R s m args below meth c H locs cells slots Q (F0 m pc ls (S.map (cv E ad))) := by
  obtain ⟨hx, hb, hml, hown, hts, hin, hEV, hB0, hfr, hlo⟩ := C
  have hok := ok_all he
  have hok' := (Bool.and_eq_true _ _).mp hok.2
  have hd : decode (bc y) pc = .ok (.lookupswitch dflt ps, lenI (.lookupswitch dflt ps) r) := of_decide_eq_true hok'.1
  have hres : resB (mi y).1 (isIn y) pc (.lookupswitch dflt ps) r = true := hok'.2
  have hSok := hR.2.2.2.2.2.2
  unfold stp at h
  dsimp only at h
  have hh := h
  clear h
  match r, hh, hres, he, hd with
  | [], h, _, _, _ => cases h
  | [_], h, _, _, _ => cases h
  | ln :: df :: qs, h, hres, he, hd =>
    have hres' : (df == (pc : Int) + dflt && qs == flat2 pc ps.toList && (ps.toList.zip (ps.toList.drop 1)).all (fun (a, next) => a.1 < next.1) && decide (0 ≤ df) && ps.toList.all (fun t => decide (0 ≤ (pc : Int) + t.2))) = true := hres
    rw [Bool.and_eq_true, Bool.and_eq_true, Bool.and_eq_true, Bool.and_eq_true, beq_iff_eq, beq_iff_eq, decide_eq_true_eq] at hres'
    obtain ⟨⟨⟨⟨r1, r2⟩, r3⟩, r4⟩, r5⟩ := hres'
    have h9 := bI_some h
    clear h
    obtain ⟨a, S3, rfl, h⟩ := h9
    cases h
    have ha : -2147483648 ≤ a ∧ a < 2147483648 := okh hSok
    subst r1
    subst r2
    have hpos : ∀ (l : List (Int × Int)), l.all (fun t => decide (0 ≤ (pc : Int) + t.2)) = true → 0 ≤ (pc : Int) + Op.lookupswitch.offset l dflt a := by
      intro l hl
      induction l with
      | nil => exact r4
      | cons q l ih =>
        obtain ⟨q1, q2⟩ := q
        rw [List.all_cons, Bool.and_eq_true, decide_eq_true_eq] at hl
        rw [Op.lookupswitch.offset_cons]
        split
        · exact hl.1
        · exact ih hl.2
    have hp := hpos _ r5
    rw [lsw_eq] at kk
    exact lv_lookup (x := Int32.ofInt a) (off := Op.lookupswitch.offset ps.toList dflt a) (tgt := ((pc : Int) + Op.lookupswitch.offset ps.toList dflt a).toNat) hx hb hd r3 (by rw [t32 ha.1 ha.2]) (by omega) (kk.stk hR (okt hSok))
theorem st_ifnull {off : Int} {r : List Int} {pc1 : Nat} {L1 S1 : List AV} {σ1 : Sg} (C : CX p R s m args meth c y d G cA E B0) (he : (pc, (.ifnull off : Instr), r) ∈ cod y) (h : stp nS sB (.ifnull off) r pc L S σ = some (pc1, L1, S1, σ1)) (hnL : nL = mL y) (hR : REL G cA E B0 s.heap nL ad σ H locs ls L S) (kk : KT p l e R s m args below meth c Q G cA E B0 nL cells slots ad σ pc1 L1 S1 σ1) : W p l e R s m args below meth c H locs cells slots Q (F0 m pc ls (S.map (cv E ad))) := by
  obtain ⟨hx, hb, hml, hown, hts, hin, hEV, hB0, hfr, hlo⟩ := C
  have hok := ok_all he
  have hok' := (Bool.and_eq_true _ _).mp hok.2
  have hd : decode (bc y) pc = .ok (.ifnull off, lenI (.ifnull off) r) := of_decide_eq_true hok'.1
  have hres : resB (mi y).1 (isIn y) pc (.ifnull off) r = true := hok'.2
  have hSok := hR.2.2.2.2.2.2
  unfold stp at h
  dsimp only at h
  have hh := h
  clear h
  match r, hh, hres, he, hd with
  | [], h, _, _, _ => cases h
  | _ :: _ :: _, h, _, _, _ => cases h
  | [t], h, hres, he, hd =>
    have hres' : (decide (0 ≤ t) && t == (pc : Int) + off) = true := hres
    rw [Bool.and_eq_true, decide_eq_true_eq, beq_iff_eq] at hres'
    have ht : (pc : Int) + off = ((t.toNat : Nat) : Int) := by omega
    have h9 := bR_some h
    clear h
    obtain ⟨a, S3, rfl, h⟩ := h9
    obtain ⟨hge, h⟩ := bif0_some h
    rw [decide_eq_true_eq] at hge
    cases h
    by_cases h1 : a = -1
    · subst h1
      rw [if_pos rfl] at kk
      exact lv_ifnullN (tgt := t.toNat) hx hb hd ht (kk.stk hR (okt hSok))
    · rw [if_neg h1] at kk
      obtain ⟨j, rfl⟩ : ∃ j : Nat, a = (j : Int) := ⟨a.toNat, by omega⟩
      show W p l e R s m args below meth c H locs cells slots Q (F0 m pc ls (cv E ad (2, (j : Int)) :: S1.map (cv E ad)))
      rw [cv_ref]
      exact lv_ifnull hx hb hd (kk.stk hR (okt hSok))
theorem st_ifnonnull {off : Int} {r : List Int} {pc1 : Nat} {L1 S1 : List AV} {σ1 : Sg} (C : CX p R s m args meth c y d G cA E B0) (he : (pc, (.ifnonnull off : Instr), r) ∈ cod y) (h : stp nS sB (.ifnonnull off) r pc L S σ = some (pc1, L1, S1, σ1)) (hnL : nL = mL y) (hR : REL G cA E B0 s.heap nL ad σ H locs ls L S) (kk : KT p l e R s m args below meth c Q G cA E B0 nL cells slots ad σ pc1 L1 S1 σ1) : W p l e R s m args below meth c H locs cells slots Q (F0 m pc ls (S.map (cv E ad))) := by
  obtain ⟨hx, hb, hml, hown, hts, hin, hEV, hB0, hfr, hlo⟩ := C
  have hok := ok_all he
  have hok' := (Bool.and_eq_true _ _).mp hok.2
  have hd : decode (bc y) pc = .ok (.ifnonnull off, lenI (.ifnonnull off) r) := of_decide_eq_true hok'.1
  have hres : resB (mi y).1 (isIn y) pc (.ifnonnull off) r = true := hok'.2
  have hSok := hR.2.2.2.2.2.2
  unfold stp at h
  dsimp only at h
  have hh := h
  clear h
  match r, hh, hres, he, hd with
  | [], h, _, _, _ => cases h
  | _ :: _ :: _, h, _, _, _ => cases h
  | [t], h, hres, he, hd =>
    have hres' : (decide (0 ≤ t) && t == (pc : Int) + off) = true := hres
    rw [Bool.and_eq_true, decide_eq_true_eq, beq_iff_eq] at hres'
    have ht : (pc : Int) + off = ((t.toNat : Nat) : Int) := by omega
    have h9 := bR_some h
    clear h
    obtain ⟨a, S3, rfl, h⟩ := h9
    obtain ⟨hge, h⟩ := bif0_some h
    rw [decide_eq_true_eq] at hge
    cases h
    by_cases h1 : a = -1
    · subst h1
      rw [if_pos rfl] at kk
      exact lv_ifnonnullN hx hb hd (kk.stk hR (okt hSok))
    · rw [if_neg h1] at kk
      obtain ⟨j, rfl⟩ : ∃ j : Nat, a = (j : Int) := ⟨a.toNat, by omega⟩
      show W p l e R s m args below meth c H locs cells slots Q (F0 m pc ls (cv E ad (2, (j : Int)) :: S1.map (cv E ad)))
      rw [cv_ref]
      exact lv_ifnonnull (tgt := t.toNat) hx hb hd ht (kk.stk hR (okt hSok))
end STA
