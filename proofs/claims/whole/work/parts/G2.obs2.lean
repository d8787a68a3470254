/-! What is told of a run: the class and the reference. -/
/-- what the class keeps of a run -/
def OBC (v : Mem) (z : Nat) (res : Int) (ρ : Rho) : Prop := (∃ rc, HC v z (rH ρ) (rK ρ) (rM ρ) rc) ∧ (v 31 10 = (rN ρ : Nat) ∧ v 31 11 = ((rT ρ).length : Nat) ∧ v 31 12 = res) ∧ (rT ρ).length ≤ 2000 ∧ ∀ i, i < (rT ρ).length → v 14 (7011 + i) = (rT ρ).getD i 0
/-- what the reference keeps of it -/
def OBR (v : Mem) (z : Nat) (res : Int) (ρ : Rho) : Prop := (∃ J, RHb v z J ∧ blk J = rH ρ) ∧ v 38 67 = res ∧ (v 38 68 = (rN ρ : Nat) ∧ v 38 69 = (rK ρ : Nat) ∧ v 38 70 = (rM ρ : Nat) ∧ v 38 72 = ((rT ρ).length : Nat)) ∧ ((rT ρ).length ≤ 2000 ∧ ∀ i, i < (rT ρ).length → v 79 i = (rT ρ).getD i 0)
theorem CE.obc {v0 v : Mem} {z : Nat} {k res : Int} {ρ : Rho} (h : CE v0 z k res ρ v) : OBC v z res ρ := by
  obtain ⟨⟨S, a1, -⟩, ⟨a2, a3, a4, -⟩, a5, a6, -⟩ := h
  exact ⟨⟨_, a1.2.1⟩, ⟨a2, a3, a4⟩, a5, a6.2.2⟩
theorem RFi.obr {v0 v : Mem} {z : Nat} {k res : Int} {ρ : Rho} (h : RFi v0 z k res ρ v) : OBR v z res ρ := ⟨h.1, h.2.1.2, h.2.2.1, h.2.2.2.1⟩
theorem HC.same {v v' : Mem} {z : Nat} {H : Hp} {k mo : Nat} {rc : Nat → Nat} (h : HC v z H k mo rc) (e : ∀ c, 15 ≤ c → c ≤ 20 → v' c = v c) : HC v' z H k mo rc := HC.cells h e
theorem OBC.same {v v' : Mem} {z : Nat} {res : Int} {ρ : Rho} (h : OBC v z res ρ) (e : ∀ c, (14 ≤ c ∧ c ≤ 20) ∨ c = 31 → v' c = v c) : OBC v' z res ρ := by
  obtain ⟨⟨rc, a1⟩, a2, a3, a4⟩ := h
  refine ⟨⟨rc, HC.cells a1 (fun c c1 c2 => e c (by omega))⟩, by rw [e 31 (by omega)]; exact a2, a3, by rw [e 14 (by omega)]; exact a4⟩
theorem OBR.same {v v' : Mem} {z : Nat} {res : Int} {ρ : Rho} (h : OBR v z res ρ) (e : ∀ c, 73 ≤ c → c ≤ 79 → v' c = v c) (e1 : ∀ k, 65 ≤ k → k ≤ 74 → v' 38 k = v 38 k) : OBR v' z res ρ := by
  obtain ⟨⟨J, a1, a1'⟩, a2, a3, a4, a5⟩ := h
  refine ⟨⟨J, a1.same (e1 _ (by decide) (by decide)) (e1 _ (by decide) (by decide)) (e1 _ (by decide) (by decide)) (fun c hc => e c (by omega) (by omega)), a1'⟩, by rw [e1 67 (by decide) (by decide)]; exact a2, ?_, a4, by rw [e 79 (by decide) (by decide)]; exact a5⟩
  rw [e1 68 (by decide) (by decide), e1 69 (by decide) (by decide), e1 70 (by decide) (by decide), e1 72 (by decide) (by decide)]
  exact a3
/-- what is told -/
def tlv (z : Nat) (res : Int) (ρ : Rho) (a : Int) : Int := if a = 0 then res else if a = 1 then (((rT ρ).length : Nat) : Int) else if a = 2 then ((rN ρ : Nat) : Int) else if a = 3 then ((rK ρ : Nat) : Int) else if a = 4 then ((rM ρ : Nat) : Int) else if a = 5 then ((hsum (rH ρ) : Nat) : Int) else if a = 6 then ((pcs z 0 (rH ρ) : Nat) : Int) else ((lng z 0 (rH ρ) : Nat) : Int)
theorem told_c {t : Int} {d : Nat} {v : Mem} {Q : Int → Mem → Prop} {z : Nat} {res a : Int} {ρ : Rho} (h : OBC v z res ρ) (h0 : 0 ≤ a) (h7 : a ≤ 7) (hq : Q (tlv z res ρ a) v) : LL t (d + 2) 176 4 [(2, 0), (0, a)] [] v Q := by
  obtain ⟨⟨rc, a1⟩, ⟨a2, a3, a4⟩, -⟩ := h
  obtain ⟨b1, ⟨b2, b3, b4, b5, b6, b7⟩, b8⟩ := a1
  have a1 : HC v z (rH ρ) (rK ρ) (rM ρ) rc := ⟨b1, ⟨b2, b3, b4, b5, b6, b7⟩, b8⟩
  unfold tlv at hq
  refine s_176_4 ⟨fun c => ?_, fun n0 => ⟨fun c => ?_, fun n1 => ⟨fun c => ?_, fun n2 => ⟨fun c => ?_, fun n3 => ⟨fun c => ?_, fun n4 => ⟨fun c => ?_, fun n5 => ⟨fun c => ?_, fun n6 => ⟨fun c => ?_, fun n7 => ?_⟩⟩⟩⟩⟩⟩⟩⟩
  · rw [if_pos c] at hq; rw [a4]; exact hq
  · rw [if_neg n0, if_pos c] at hq; rw [a3]; exact hq
  · rw [if_neg n0, if_neg n1, if_pos c] at hq; rw [a2]; exact hq
  · rw [if_neg n0, if_neg n1, if_neg n2, if_pos c] at hq; rw [b3]; exact hq
  · rw [if_neg n0, if_neg n1, if_neg n2, if_neg n3, if_pos c] at hq; rw [b5]; exact hq
  · rw [if_neg n0, if_neg n1, if_neg n2, if_neg n3, if_neg n4, if_pos c] at hq; rw [b4]; exact hq
  · rw [if_neg n0, if_neg n1, if_neg n2, if_neg n3, if_neg n4, if_neg n5, if_pos c] at hq; exact pieces_c a1 hq
  · rw [if_neg n0, if_neg n1, if_neg n2, if_neg n3, if_neg n4, if_neg n5, if_neg n6] at hq; exact longest_c a1 hq
  · omega
theorem told_r {t : Int} {d : Nat} {v : Mem} {Q : Int → Mem → Prop} {z : Nat} {res a : Int} {ρ : Rho} (h : OBR v z res ρ) (h48 : ¬ v 38 48 = 0) (h0 : 0 ≤ a) (h7 : a ≤ 7) (hq : Q (tlv z res ρ a) (up v 38 7 0)) : RR t (d + 2) 257 [(2, 38), (0, a)] v Q := by
  have h' : OBR (up v 38 7 0) z res ρ := h.same (fun c _ _ => up_ne (by omega)) (fun k _ _ => up_nk (by omega))
  obtain ⟨-, a2, ⟨a3, a4, a5, a6⟩, -⟩ := h
  obtain ⟨⟨J, b1, b2⟩, -⟩ := h'
  have b3 : v 38 73 = ((hsum (rH ρ) : Nat) : Int) := by
    have := b1.1.2.2.2
    rwa [up_nk (by decide), b2] at this
  unfold tlv at hq
  refine w_257 ⟨fun c => absurd c h48, fun _ => ⟨fun c => absurd c (by omega), fun _ => ⟨fun c => absurd c (by omega), fun _ => ?_⟩⟩⟩
  refine w_257_27 ⟨fun _ => ⟨fun c => ?_, fun n0 => ⟨fun c => ?_, fun n1 => ⟨fun c => ?_, fun n2 => ⟨fun c => ?_, fun n3 => ⟨fun c => ?_, fun n4 => ⟨fun c => ?_, fun n5 => ⟨fun c => ?_, fun n6 => ?_⟩⟩⟩⟩⟩⟩⟩, fun c => absurd rfl c⟩
  · rw [if_pos c] at hq; rw [a2]; exact hq
  · rw [if_neg n0, if_pos c] at hq; rw [a6]; exact hq
  · rw [if_neg n0, if_neg n1, if_pos c] at hq; rw [a3]; exact hq
  · rw [if_neg n0, if_neg n1, if_neg n2, if_pos c] at hq; rw [a4]; exact hq
  · rw [if_neg n0, if_neg n1, if_neg n2, if_neg n3, if_pos c] at hq; rw [a5]; exact hq
  · rw [if_neg n0, if_neg n1, if_neg n2, if_neg n3, if_neg n4, if_pos c] at hq; rw [b3]; exact hq
  · rw [if_neg n0, if_neg n1, if_neg n2, if_neg n3, if_neg n4, if_neg n5, if_pos c] at hq
    exact free_r b1 (fun e => absurd e (by decide)) (fun _ => by rw [b2]; exact hq)
  · rw [if_neg n0, if_neg n1, if_neg n2, if_neg n3, if_neg n4, if_neg n5, if_neg n6] at hq
    exact free_r b1 (fun _ => by rw [b2]; exact hq) (fun e => absurd rfl e)
/-- it throws: 1 before a run, 2 at a wrong number -/
theorem told_x {t : Int} {d : Nat} {v : Mem} {Q : Int → Mem → Prop} {a : Int} (h : v 38 48 = 0 ∨ a < 0 ∨ 7 < a) (hq : Q 0 (up v 38 7 (if v 38 48 = 0 then 1 else 2))) : RR t (d + 2) 257 [(2, 38), (0, a)] v Q := by
  refine w_257 ⟨fun c => ?_, fun c => ?_⟩
  · rw [if_pos c] at hq
    exact w_257_27 ⟨fun c => absurd c (by decide), fun _ => hq⟩
  · rw [if_neg c] at hq
    refine ⟨fun _ => w_257_27 ⟨fun c => absurd c (by decide), fun _ => hq⟩, fun c1 => ⟨fun _ => w_257_27 ⟨fun c => absurd c (by decide), fun _ => hq⟩, fun c2 => ?_⟩⟩
    rcases h with h | h | h
    · exact absurd h c
    · exact absurd h c1
    · exact absurd h c2
/-- a byte told -/
def ltr (ρ : Rho) (a : Int) : Int := if a < 0 then -1 else if a < (((rT ρ).length : Nat) : Int) then iand ((rT ρ).getD a.toNat 0) 255 else -1
theorem letter_c {t : Int} {d : Nat} {v : Mem} {Q : Int → Mem → Prop} {z : Nat} {res a : Int} {ρ : Rho} (h : OBC v z res ρ) (hq : Q (ltr ρ a) v) : LL t (d + 1) 177 4 [(2, 0), (0, a)] [] v Q := by
  obtain ⟨-, ⟨a2, a3, a4⟩, a5, a6⟩ := h
  unfold ltr at hq
  refine s_177_4 ⟨fun c => ?_, fun n0 => ⟨fun c => ?_, fun c => ?_⟩⟩
  · rw [if_pos c] at hq; exact hq
  · rw [a3] at c
    rw [if_neg n0, if_pos c] at hq
    obtain ⟨k, rfl⟩ : ∃ k : Nat, a = (k : Int) := ⟨a.toNat, by omega⟩
    have hk : k < (rT ρ).length := by omega
    rw [Int.toNat_natCast] at hq
    rw [wNat (k := 7011 + k) (a := 7011 + (k : Int)) (by omega) (by omega)]
    unfold f_2
    rw [if_neg (by omega), if_pos (by omega), Int.toNat_natCast, a6 k hk]
    exact hq
  · rw [a3] at c
    rw [if_neg n0, if_neg c] at hq; exact hq
theorem letter_r {t : Int} {d : Nat} {v : Mem} {Q : Int → Mem → Prop} {z : Nat} {res a : Int} {ρ : Rho} (h : OBR v z res ρ) (h48 : ¬ v 38 48 = 0) (hq : Q (ltr ρ a) (up v 38 7 0)) : RR t d 259 [(2, 38), (0, a)] v Q := by
  obtain ⟨-, a2, ⟨a3, a4, a5, a6⟩, a7, a8⟩ := h
  unfold ltr at hq
  refine w_259 ⟨fun c => absurd c h48, fun _ => ⟨fun _ => ⟨fun c => ⟨fun _ => ?_, fun c => absurd rfl c⟩, fun n0 => ⟨fun c => ?_, fun c => ⟨fun _ => ?_, fun c => absurd rfl c⟩⟩⟩, fun c => absurd rfl c⟩⟩
  · rw [if_pos c] at hq; exact hq
  · rw [a6] at c
    rw [if_neg n0, if_pos c] at hq
    obtain ⟨k, rfl⟩ : ∃ k : Nat, a = (k : Int) := ⟨a.toNat, by omega⟩
    have hk : k < (rT ρ).length := by omega
    rw [Int.toNat_natCast] at hq ⊢
    rw [a8 k hk]
    exact ⟨⟨by omega, by omega⟩, hq⟩
  · rw [a6] at c
    rw [if_neg n0, if_neg c] at hq; exact hq
theorem letter_x {t : Int} {d : Nat} {v : Mem} {Q : Int → Mem → Prop} {a : Int} (h : v 38 48 = 0) (hq : Q 0 (up v 38 7 1)) : RR t d 259 [(2, 38), (0, a)] v Q := by
  exact w_259 ⟨fun _ => ⟨fun c => absurd c (by decide), fun _ => ⟨fun c => absurd c (by decide), fun _ => hq⟩⟩, fun c => absurd h c⟩
theorem whose_c {t : Int} {d : Nat} {v : Mem} {Q : Int → Mem → Prop} {z k : Nat} {res : Int} {ρ : Rho} (h : OBC v z res ρ) (hk : k < z) (hq : Q (own k (rH ρ)) v) : LL t (d + 2) 178 4 [(2, 0), (0, (k : Int))] [] v Q := by
  obtain ⟨⟨rc, a1⟩, -⟩ := h
  have e6 : v 15 6 = (z : Int) := a1.2.1.1
  exact s_178_4 ⟨fun c => absurd c (by omega), fun _ => ⟨fun _ => owner_c a1 hq, fun c => absurd (by rw [e6]; omega) c⟩⟩
theorem whose_r {t : Int} {d : Nat} {v : Mem} {Q : Int → Mem → Prop} {z k : Nat} {res : Int} {ρ : Rho} (h : OBR v z res ρ) (h48 : ¬ v 38 48 = 0) (hk : k < z) (hq : Q (own k (rH ρ)) (up v 38 7 0)) : RR t d 260 [(2, 38), (0, (k : Int))] v Q := by
  obtain ⟨⟨J, b1, b2⟩, -⟩ := h
  have z4 := b1.1.2.2.1
  have e65 : v 38 65 = (z : Int) := b1.1.2.1
  have ho := own_r b1 hk
  rw [b2] at ho
  refine w_260 ⟨fun c => absurd c h48, fun _ => ⟨fun c => absurd c (by omega), fun _ => ⟨fun _ => ⟨fun _ => ?_, fun c => absurd rfl c⟩, fun c => absurd (by rw [e65]; omega) c⟩⟩⟩
  rw [Int.toNat_natCast]
  refine ⟨⟨by omega, by omega⟩, fun c => ?_, fun c => ?_⟩
  · rcases ho with ⟨o1, o2⟩ | ⟨o1, o2, o3⟩
    · rw [o2] at hq; exact hq
    · omega
  · rcases ho with ⟨o1, o2⟩ | ⟨o1, o2, o3⟩
    · omega
    · rw [o3]; exact ⟨⟨by omega, by omega⟩, ⟨o1, o2⟩, hq⟩
theorem whose_x {t : Int} {d : Nat} {v : Mem} {Q : Int → Mem → Prop} {a : Int} (h : v 38 48 = 0 ∨ a < 0 ∨ v 38 65 ≤ a) (hq : Q 0 (up v 38 7 (if v 38 48 = 0 then 1 else 2))) : RR t d 260 [(2, 38), (0, a)] v Q := by
  refine w_260 ⟨fun c => ?_, fun c => ?_⟩
  · rw [if_pos c] at hq
    exact ⟨fun c => absurd c (by decide), fun _ => hq⟩
  · rw [if_neg c] at hq
    refine ⟨fun _ => ⟨fun c => absurd c (by decide), fun _ => hq⟩, fun c1 => ⟨fun c2 => ?_, fun c2 => ⟨fun c => absurd c (by decide), fun _ => hq⟩⟩⟩
    rcases h with h | h | h
    · exact absurd h c
    · exact absurd h c1
    · exact absurd c2 (by omega)
theorem wrong_c {t : Int} {d : Nat} {v : Mem} {Q : Int → Mem → Prop} {z : Nat} {res : Int} {ρ : Rho} (h : OBC v z res ρ) (hq : Q 0 v) : LL t (d + 1) 179 4 [(2, 0)] [] v Q := by
  obtain ⟨⟨rc, a1⟩, -⟩ := h
  refine s_179_4 ?_
  rw [a1.2.1.2.2.2.2.1]
  exact hq
theorem wrong_r {t : Int} {d : Nat} {v : Mem} {Q : Int → Mem → Prop} (hq : Q 0 (up v 38 7 (if v 38 48 = 0 then 1 else 0))) : RR t d 261 [(2, 38)] v Q := by
  refine w_261 ⟨fun c => ?_, fun c => ?_⟩
  · rw [if_pos c] at hq; exact hq
  · rw [if_neg c] at hq; exact hq
