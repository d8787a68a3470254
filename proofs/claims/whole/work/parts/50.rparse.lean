/-! The reference reads a PROGRAM: from the text. -/
theorem parse_rr {t : Int} {F g : Nat} {d n sg nb dp sc : Nat} {v : Mem} {Q : Int → Mem → Prop} (hd : 562 ≤ d) (hs : v 38 3 = n) (ht : TXT 40 v n) (h5 : v 38 5 = 0) (h39 : v 38 39 = sg) (h38 : v 38 38 = nb) (h40 : v 38 40 = dp) (h41 : v 38 41 = sc)
    (hq1 : 3000 < n → ∀ v', v' 38 5 = 1 → v' 38 6 = 3000 → FFr 0 0 0 v v' → Q 0 v')
    (hq2 : n ≤ 3000 → ∃ r, PPr (kd (uB (v 40) n) n) F g 0 0 0 = some r ∧ (∀ v1 : Mem, FFr 0 0 0 v v1 → v1 40 = v 40 → PoP Q v1 (uB (v 40) n) n 0 0 0 r)) : RR t d 214 [(2, 38)] v Q := by
  obtain ⟨d', rfl⟩ : ∃ d', d = d' + 1 := ⟨d - 1, by omega⟩
  have fr : FFr 0 0 0 v (up (up (up (up v 38 13 0) 38 22 0) 38 31 0) 38 8 0) := (((FFr.u38 (by omega)).trans (FFr.u38 (by omega)) (Nat.le_refl _) (Nat.le_refl _) (Nat.le_refl _)).trans (FFr.u38 (by omega)) (Nat.le_refl _) (Nat.le_refl _) (Nat.le_refl _)).trans (FFr.u38 (by omega)) (Nat.le_refl _) (Nat.le_refl _) (Nat.le_refl _)
  refine s_214 ?_
  rw [hs]
  refine ⟨fun c => ?_, fun c => ?_⟩
  · rw [m194 (v := up (up (up (up v 38 13 0) 38 22 0) 38 31 0) 38 8 0) h5]
    exact hq1 (by omega) _ rfl rfl ((fr.trans (FFr.u38 (by omega)) (Nat.le_refl _) (Nat.le_refl _) (Nat.le_refl _)).trans (FFr.u38 (by omega)) (Nat.le_refl _) (Nat.le_refl _) (Nat.le_refl _))
  · obtain ⟨r, hp, hq⟩ := hq2 (by omega)
    have e13 : up (up (up (up v 38 13 0) 38 22 0) 38 31 0) 38 8 0 38 13 = ((0 : Nat) : Int) := rfl
    have e22 : up (up (up (up v 38 13 0) 38 22 0) 38 31 0) 38 8 0 38 22 = ((0 : Nat) : Int) := rfl
    have e31 : up (up (up (up v 38 13 0) 38 22 0) 38 31 0) 38 8 0 38 31 = ((0 : Nat) : Int) := rfl
    have e40 : up (up (up (up v 38 13 0) 38 22 0) 38 31 0) 38 8 0 40 = v 40 := rfl
    refine RR.deep (d := 0 + 8) (next_rr (n := n) n 0 (up (up (up (up v 38 13 0) 38 22 0) 38 31 0) 38 8 0) (Nat.zero_add n) hs ht rfl (fun v2 b1 b2 => ?_)) (by omega)
    have e2 : v2 40 = v 40 := by rw [b2.1 40 (by decide)]; rfl
    have fr2 : FFr 0 0 0 v v2 := fr.trans (FFr.s38 b2) (Nat.le_refl _) (Nat.le_refl _) (Nat.le_refl _)
    have hE : ES v2 (uB (v 40) n) n 0 sg nb 0 := ⟨by rw [e2], b1, by rw [b2.2 39 (by omega)]; exact h39, by rw [b2.2 38 (by omega)]; exact h38, by rw [b2.2 31 (by omega)]; exact e31, by rw [b2.2 5 (by omega)]; exact h5⟩
    have hG : SG v2 (uB (v 40) n) n 0 0 dp sc 0 := ⟨⟨sg, nb, hE⟩, Nat.zero_le _, Nat.le_refl _, by rw [b2.2 22 (by omega)]; exact e22, by rw [b2.2 40 (by omega)]; exact h40, by rw [b2.2 41 (by omega)]; exact h41⟩
    exact prog_lp (F := F) (by omega) g 0 0 0 0 r v2 dp sc hp hG (by rw [b2.2 13 (by omega)]; exact e13) (by omega) (by omega) (hq v2 fr2 e2)
