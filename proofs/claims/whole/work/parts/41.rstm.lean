/-! The reference reads S and BLOCK: one step of the induction. -/
/-- S lo (with what is within it up to m - 1) and nodes nlo .. nhi - 1 stand for one S, but for what follows it -/
def R1 (v : Mem) (u : Nat → Int) (n : Nat) (s : Jvm.Term) (lo m nlo nhi : Nat) : Prop := match s with
  | .elem (.arg i) (.sub e (.sub b c)) => ∃ m1 n1 n2 X : Nat, lo < m1 ∧ m1 ≤ m ∧ nlo ≤ X ∧ X < n1 ∧ n1 ≤ n2 ∧ n2 ≤ nhi ∧
      v 49 lo = skd (kd u n i) ∧ (kd u n i = 19 → v 50 lo = ps u n (i + 1) ∧ v 51 lo = ln u n (i + 1)) ∧ (kd u n i = 2 → v 50 lo = ps u n i ∧ v 51 lo = ln u n i) ∧ v 52 lo = X ∧ RN v u n e nlo n1 X ∧ isE e ∧ v 61 X = fstT u n e ∧
      RS v u n b (lo + 1) m1 n1 n2 (v 53 lo) ∧ RS v u n c m1 m n2 nhi (v 54 lo)
  | _ => False
theorem R1.cons {v : Mem} {u : Nat → Int} {n : Nat} {s r : Jvm.Term} {lo m hi nlo n3 nhi : Nat} (h : R1 v u n s lo m nlo n3) (hr : RS v u n r m hi n3 nhi (v 55 lo)) (h1 : m ≤ hi) (h2 : n3 ≤ nhi) : RS v u n (.sub s r) lo hi nlo nhi lo := by
  unfold R1 at h
  split at h
  · obtain ⟨m1, n1, n2, X, q1, q2, q4, q5, q6, q7, a1, a2, a3, a4, a5, a6, a7, b1, b2⟩ := h
    unfold RS
    exact ⟨m, m1, n1, n2, n3, X, rfl, q1, q2, h1, q4, q5, q6, q7, h2, a1, a2, a3, a4, a5, a6, a7, b1, b2, hr⟩
  · exact h.elim
theorem R1.same {v v' : Mem} {u : Nat → Int} {n : Nat} {s : Jvm.Term} {lo m nlo nhi : Nat} (q : R1 v u n s lo m nlo nhi) (h : ∀ c k, 49 ≤ c → c ≤ 55 → lo ≤ k → k < m → ¬ (c = 55 ∧ k = lo) → v' c k = v c k) (h' : ∀ c k, 57 ≤ c → c ≤ 62 → nlo ≤ k → k < nhi → v' c k = v c k) : R1 v' u n s lo m nlo nhi := by
  unfold R1 at q
  split at q
  · obtain ⟨m1, n1, n2, X, q1, q2, q4, q5, q6, q7, a1, a2, a3, a4, a5, a6, a7, b1, b2⟩ := q
    have l1 : lo < m := by omega
    refine ⟨m1, n1, n2, X, q1, q2, q4, q5, q6, q7, ?_, ?_, ?_, ?_, RN_same _ _ (Nat.lt_succ_self _) _ _ _ (fun c j c1 c2 c3 c4 => h' c j c1 c2 c3 (by omega)) a5, a6, ?_, ?_, ?_⟩
    · rw [h 49 lo (by omega) (by omega) (by omega) l1 (by omega)]; exact a1
    · rw [h 50 lo (by omega) (by omega) (by omega) l1 (by omega), h 51 lo (by omega) (by omega) (by omega) l1 (by omega)]; exact a2
    · rw [h 50 lo (by omega) (by omega) (by omega) l1 (by omega), h 51 lo (by omega) (by omega) (by omega) l1 (by omega)]; exact a3
    · rw [h 52 lo (by omega) (by omega) (by omega) l1 (by omega)]; exact a4
    · rw [h' 61 X (by omega) (by omega) q4 (by omega)]; exact a7
    · rw [h 53 lo (by omega) (by omega) (by omega) l1 (by omega)]
      exact RS_same _ _ (Nat.lt_succ_self _) _ _ _ _ _ (fun c j c1 c2 c3 c4 => h c j c1 c2 (by omega) (by omega) (by omega)) (fun c j c1 c2 c3 c4 => h' c j c1 c2 (by omega) (by omega)) b1
    · rw [h 54 lo (by omega) (by omega) (by omega) l1 (by omega)]
      exact RS_same _ _ (Nat.lt_succ_self _) _ _ _ _ _ (fun c j c1 c2 c3 c4 => h c j c1 c2 (by omega) (by omega) (by omega)) (fun c j c1 c2 c3 c4 => h' c j c1 c2 (by omega) (by omega)) b2
  · exact q.elim
/-- frames that reading S needs -/
def dS (dp c : Nat) : Nat := 490 + 5 * (9 - dp) + c
/-- behind an S: its number; behind a fault: -1 -/
def PoS (Q : Int → Mem → Prop) (v : Mem) (u : Nat → Int) (n st dp nd i : Nat) (r : Except Nat (Jvm.Term × Nat × Nat × Nat)) : Prop := match r with
  | .error j => ∀ v', FT1 v' u n j → SFr nd st v v' → Q (-1) v'
  | .ok q => ∀ (v' : Mem) (nd' : Nat), SG v' u n q.2.1 q.2.2.1 (dp + 1) q.2.2.2 nd' → SFr nd st v v' → R1 v' u n q.1 st q.2.2.1 nd nd' → v' 55 st = -1 → nd ≤ nd' → st < q.2.2.1 → q.2.2.1 ≤ 300 → q.2.2.2 ≤ 30 → i ≤ q.2.1 → nd' + i ≤ nd + q.2.1 → Q st v'
/-- behind a BLOCK: its first S's number or -1; behind a fault: -2 -/
def PoB (Q : Int → Mem → Prop) (v : Mem) (u : Nat → Int) (n st dp nd i : Nat) (r : Except Nat (Jvm.Term × Nat × Nat × Nat)) : Prop := match r with
  | .error j => ∀ v', FT1 v' u n j → SFr nd st v v' → Q (-2) v'
  | .ok q => ∀ (v' : Mem) (nd' : Nat) (x : Int), SG v' u n q.2.1 q.2.2.1 dp q.2.2.2 nd' → SFr nd st v v' → RS v' u n q.1 st q.2.2.1 nd nd' x → -1 ≤ x → nd ≤ nd' → st ≤ q.2.2.1 → q.2.2.1 ≤ 300 → i ≤ q.2.1 → nd' + i ≤ nd + q.2.1 → Q x v'
def HS (t : Int) (u : Nat → Int) (n f : Nat) : Prop := ∀ (i st dp sc : Nat) (r : Except Nat (Jvm.Term × Nat × Nat × Nat)), PS (kd u n) f 2 i st dp sc = some r → ∀ (d : Nat) (v : Mem) (Q : Int → Mem → Prop) (nd : Nat), dS dp 3 ≤ d → SG v u n i st (dp + 1) sc nd → st ≤ 300 → sc ≤ 30 → dp ≤ 8 → PoS Q v u n st dp nd i r → RR t d 208 [(2, 38)] v Q
def HB (t : Int) (u : Nat → Int) (n f : Nat) : Prop := ∀ (i st dp sc : Nat) (r : Except Nat (Jvm.Term × Nat × Nat × Nat)), PS (kd u n) f 0 i st dp sc = some r → ∀ (d : Nat) (v : Mem) (Q : Int → Mem → Prop) (nd : Nat), dS dp 4 ≤ d → SG v u n i st dp sc nd → st ≤ 300 → sc ≤ 30 → dp ≤ 8 → PoB Q v u n st dp nd i r → RR t d 207 [(2, 38)] v Q
/-- behind the E of an S -/
def PoW (Q : Int → Mem → Prop) (v : Mem) (u : Nat → Int) (n st dp sc nd i : Nat) (r : Except Nat (Jvm.Term × Nat × Nat)) : Prop := match r with
  | .error j => ∀ v', FT1 v' u n j → EFr nd v v' → Q (-1) v'
  | .ok q => ∀ (v' : Mem) (nd' X : Nat), SG v' u n q.2.1 st dp sc nd' → EFr nd v v' → RN v' u n q.1 nd nd' X → isE q.1 → v' 61 X = fstT u n q.1 → nd ≤ X ∧ X < nd' → nd' + i ≤ nd + q.2.1 → i ≤ q.2.1 → Q X v'
theorem whole_rr {t : Int} {u : Nat → Int} {n f : Nat} {i st dp sc nd : Nat} {r : Except Nat (Jvm.Term × Nat × Nat)} (hp : PE (kd u n) f 0 .null i 0 0 = some r) {d : Nat} {v : Mem} {Q : Int → Mem → Prop} (hd : 486 ≤ d) (hg : SG v u n i st dp sc nd) (hq : PoW Q v u n st dp sc nd i r) : RR t d 206 [(2, 38)] v Q := by
  obtain ⟨d', rfl⟩ : ∃ d', d = d' + 1 := ⟨d - 1, by omega⟩
  obtain ⟨⟨sg, nb, he⟩, h1, h2, h3, h4, h5⟩ := hg
  have fr : EFr nd v (up (up v 38 39 0) 38 38 0) := (EFr.u38 (by omega)).trans (EFr.u38 (by omega)) (Nat.le_refl _)
  have hE0 : EG (up (up v 38 39 0) 38 38 0) u n i 0 0 nd := ⟨he.same rfl (fun k hk => by rw [up_nk (by omega), up_nk (by omega)]) rfl rfl he.2.2.2.2.1 he.2.2.2.2.2, h1, by decide, by decide⟩
  refine w_206 (RR.imp ((CE_all t u n f).1 0 .null i 0 0 r (by decide) hp d' _ Q nd (by unfold dN; omega) hE0 h2 ?_) (fun _ _ h => h))
  cases r with
  | error j => exact fun v' a1 a2 => hq v' a1 (fr.trans a2 (Nat.le_refl _))
  | ok q =>
    intro v' nd' X a1 a2 a3 a4 a5 a6 a7 a8 a9
    have fr2 : EFr nd v v' := fr.trans a2 (Nat.le_refl _)
    refine hq v' nd' X ⟨⟨_, _, a1.1⟩, a1.2.1, by omega, ?_, ?_, ?_⟩ fr2 a3 a4 a5.1 a6 a8 (by omega)
    · rw [fr2.2.1 22 (by omega)]; exact h3
    · rw [fr2.2.1 40 (by omega)]; exact h4
    · rw [fr2.2.1 41 (by omega)]; exact h5
/-- helper contracts over SG -/
theorem SG.next {v v' : Mem} {u : Nat → Int} {n i st dp sc nd sg nb sg' nb' nd' st' dp' sc' : Nat} (h : SG v u n i st dp sc nd) (he : ES v u n i sg nb nd) (hk0 : kd u n i ≠ 0) (hk1 : kd u n i ≠ 1) (h' : ES v' u n (i + 1) sg' nb' nd') (hn : nd' ≤ nd) (h1 : v' 38 22 = st') (h2 : v' 38 40 = dp') (h3 : v' 38 41 = sc') : SG v' u n (i + 1) st' dp' sc' nd' := by
  have hpn : ps u n i < n := by
    rcases Nat.lt_or_eq_of_le he.2.1.2.2.1 with h9 | h9
    · exact h9
    · exact absurd (by unfold kd; rw [h9, ← he.1, word_end]) hk0
  have h2' := (word_adv (b := v 40) hpn).2
  have h3' := wordAt_to (u := u) (b := v 40) he.1.symm (Nat.le_of_lt hpn)
  rw [he.1] at h2'
  have h4 : ps u n i < (wordAt u n (ps u n i)).2.1 := by
    rcases h2' with h9 | h9
    · exact absurd h9 hk1
    · exact h9
  have h5 := en_b (p := isBl) (u := u) h3'.2
  rw [← ps_next hk1] at h5
  have h6 := h.2.1
  have h7 := h.2.2.1
  exact ⟨⟨_, _, h'⟩, by omega, by omega, h1, h2, h3⟩
theorem SG.upd {v v' : Mem} {u : Nat → Int} {n i st dp sc nd st' dp' sc' : Nat} (h : SG v u n i st dp sc nd) (h0 : v' 40 = v 40) (h1 : ∀ k, (k = 3 ∨ k = 5 ∨ (8 ≤ k ∧ k ≤ 12) ∨ k = 31 ∨ k = 38 ∨ k = 39) → v' 38 k = v 38 k) (h2 : v' 38 22 = st') (h3 : v' 38 40 = dp') (h4 : v' 38 41 = sc') : SG v' u n i st' dp' sc' nd := by
  obtain ⟨⟨sg, nb, he⟩, a1, a2, -⟩ := h
  exact ⟨⟨sg, nb, he.same h0 (fun k hk => h1 k (by omega)) (by rw [h1 39 (by omega)]; exact he.2.2.1) (by rw [h1 38 (by omega)]; exact he.2.2.2.1) (by rw [h1 31 (by omega)]; exact he.2.2.2.2.1) (by rw [h1 5 (by omega)]; exact he.2.2.2.2.2)⟩, a1, a2, h2, h3, h4⟩
/-- the ; behind a plain S -/
theorem st_semi {t : Int} {u : Nat → Int} {n i i1 st dp sc nd nd3 X : Nat} {e : Jvm.Term} {r : Except Nat (Jvm.Term × Nat × Nat × Nat)} {v v3 : Mem} {Q : Int → Mem → Prop} {d' : Nat} {l1 : Int} (hd : 20 ≤ d') (hst : st < 300) (hsc : sc ≤ 30) (hl1 : l1 = skd (kd u n i)) (hl : kd u n i = 19 → sc < 30) (hk3 : ¬ (kd u n i = 16 ∨ kd u n i = 25))
    (hg : SG v3 u n i1 (st + 1) (dp + 1) sc nd3) (hf : SFr nd st v v3) (hr3 : RN v3 u n e nd nd3 X) (hE : isE e) (hf1 : v3 61 X = fstT u n e) (hX : nd ≤ X ∧ X < nd3) (a49 : v3 49 st = skd (kd u n i)) (a53 : v3 53 st = -1) (a54 : v3 54 st = -1) (a55 : v3 55 st = -1)
    (hn1 : kd u n i = 19 → v3 50 st = ps u n (i + 1) ∧ v3 51 st = ln u n (i + 1)) (hn2 : kd u n i = 2 → v3 50 st = ps u n i ∧ v3 51 st = ln u n i) (hii : i ≤ i1) (hnd : nd3 + i ≤ nd + i1)
    (hr : (if kd u n i1 = 59 then okQ (stm i e .null .thrown) (i1 + 1) (st + 1) (if kd u n i = 19 then sc + 1 else sc) else erQ i1) = some r) (hq : PoS Q v u n st dp nd i r) :
    RR t d' 195 [(2, 38), (2, (-44))] (up v3 52 st X) (fun x9 v9 => (x9 = 0 → Q (-1) v9) ∧ (¬ x9 = 0 → ((l1 = 1 → Q st (up v9 38 41 (w32 ((v9 38 41) + 1)))) ∧ (¬ l1 = 1 → Q st (up v9 38 41 (w32 ((v9 38 41) + 0))))))) := by
  have hg' : SG (up v3 52 st X) u n i1 (st + 1) (dp + 1) sc nd3 := hg.upd rfl (fun k _ => rfl) hg.2.2.2.1 hg.2.2.2.2.1 hg.2.2.2.2.2
  have hf' : SFr nd st v (up v3 52 st X) := hf.trans (SFr.ups (by omega) (Nat.le_refl _)) (Nat.le_refl _) (Nat.le_refl _)
  obtain ⟨sg, nb, he⟩ := hg'.1
  refine RR.deep (d := 0 + 9) (take_42 he (fun hk v9 b1 b2 => ?_) (fun hk v9 b1 b2 => ?_)) (by omega)
  · rw [if_pos hk] at hr
    have hr : okQ (stm i e .null .thrown) (i1 + 1) (st + 1) (if kd u n i = 19 then sc + 1 else sc) = some r := hr
    cases hr
    refine ⟨fun c => absurd c (by decide), fun _ => ?_⟩
    have e41 : v9 38 41 = (sc : Int) := by rw [b2.2 41 (by omega)]; exact hg'.2.2.2.2.2
    have key : ∀ sc' : Nat, sc' = (if kd u n i = 19 then sc + 1 else sc) → Q st (up v9 38 41 (sc' : Int)) := by
      intro sc' hsc'
      have hc : ∀ c j, 49 ≤ c → up v9 38 41 (sc' : Int) c j = up v3 52 st X c j := fun c j h => by
        rw [up_ne (by omega), b2.1 c (by omega)]
      have hg9 : SG (up v9 38 41 (sc' : Int)) u n (i1 + 1) (st + 1) (dp + 1) sc' nd3 := by
        have hg8 := hg'.next he (by omega) (by omega) b1 (Nat.le_refl _) (st' := st + 1) (dp' := dp + 1) (sc' := sc) (by rw [b2.2 22 (by omega)]; exact hg'.2.2.2.1) (by rw [b2.2 40 (by omega)]; exact hg'.2.2.2.2.1) e41
        exact hg8.upd rfl (fun k hk => by rw [up_nk (by omega)]) hg8.2.2.2.1 hg8.2.2.2.2.1 rfl
      have hle : sc' ≤ 30 := by
        rw [hsc']
        split
        · rename_i h; have := hl h; omega
        · exact hsc
      subst hsc'
      refine hq _ nd3 hg9 ((hf'.trans (SFr.efr (EFr.s38 b2)) (Nat.le_refl _) (Nat.le_refl _)).trans (SFr.u38 (by omega)) (Nat.le_refl _) (Nat.le_refl _)) ?_ ?_ (by omega) (by dsimp only; omega) (by dsimp only; omega) hle (by dsimp only; omega) (by dsimp only; omega)
      · refine ⟨st + 1, nd3, nd3, X, Nat.lt_succ_self _, Nat.le_refl _, hX.1, hX.2, Nat.le_refl _, Nat.le_refl _, ?_, ?_, ?_, ?_, ?_, hE, ?_, ?_, ?_⟩
        · rw [hc 49 st (by omega), upc_ne (by omega)]; exact a49
        · rw [hc 50 st (by omega), hc 51 st (by omega), upc_ne (by omega), upc_ne (by omega)]; exact hn1
        · rw [hc 50 st (by omega), hc 51 st (by omega), upc_ne (by omega), upc_ne (by omega)]; exact hn2
        · rw [hc 52 st (by omega)]; exact up_k
        · exact RN_same _ _ (Nat.lt_succ_self _) _ _ _ (fun c j c1 c2 c3 c4 => by rw [hc c j (by omega), upc_ne (by omega)]) hr3
        · rw [hc 61 X (by omega), upc_ne (by omega)]; exact hf1
        · unfold RS
          exact ⟨Nat.le_refl _, Nat.le_refl _, by rw [hc 53 st (by omega), upc_ne (by omega)]; exact a53⟩
        · unfold RS
          exact ⟨Nat.le_refl _, Nat.le_refl _, by rw [hc 54 st (by omega), upc_ne (by omega)]; exact a54⟩
      · rw [hc 55 st (by omega), upc_ne (by omega)]; exact a55
    rw [e41]
    refine ⟨fun h1 => ?_, fun h1 => ?_⟩
    · have hk19 : kd u n i = 19 := by
        rw [hl1] at h1
        unfold skd at h1
        split at h1
        · assumption
        · split at h1
          · omega
          · split at h1
            · omega
            · split at h1
              · omega
              · split at h1
                · omega
                · split at h1
                  · omega
                  · split at h1 <;> omega
      rw [wNat (a := (sc : Int) + 1) (k := sc + 1) (by omega) (by omega)]
      exact key (sc + 1) (by rw [if_pos hk19])
    · have hk19 : ¬ kd u n i = 19 := fun h => h1 (by rw [hl1, h]; decide)
      rw [wNat (a := (sc : Int) + 0) (k := sc) (by omega) (by omega)]
      exact key sc (by rw [if_neg hk19])
  · rw [if_neg hk] at hr
    have hr : erQ i1 = some r := hr
    cases hr
    exact ⟨fun _ => hq v9 b1 (hf'.trans (SFr.efr (b2 nd)) (Nat.le_refl _) (Nat.le_refl _)), fun c => absurd rfl c⟩
