/-! The lowest eight bits; characters of the string constants. -/
theorem iand_255 {a : Int} (h1 : -2147483648 ≤ a) (h2 : a < 2147483648) : iand a 255 = a % 256 := by
  unfold iand
  have hu : ((Int32.ofInt a &&& 255).toBitVec).toNat = (a % 256).toNat := by
    show ((BitVec.ofInt 32 a) &&& 255#32).toNat = _
    rw [BitVec.toNat_and, BitVec.toNat_ofInt]
    show (a % ((2 ^ 32 : Nat) : Int)).toNat &&& 255 = (a % 256).toNat
    have e : (255 : Nat) = 2 ^ 8 - 1 := rfl
    rw [e, Nat.and_two_pow_sub_one_eq_mod]
    omega
  have h3 : (Int32.ofInt a &&& 255).toInt = (((Int32.ofInt a &&& 255).toBitVec).toNat : Int) := by
    show BitVec.toInt _ = _
    rw [BitVec.toInt_eq_toNat_of_lt]
    rw [hu]
    omega
  show (Int32.ofInt a &&& Int32.ofInt 255).toInt = _
  show (Int32.ofInt a &&& 255).toInt = _
  rw [h3, hu]
  omega
theorem sB_r2 : ∀ l ∈ sB, ∀ c ∈ l, (0 : Int) ≤ c ∧ c < 128 := by decide +kernel
theorem chr_r (j k : Nat) : 0 ≤ (sB.getD j []).getD k 0 ∧ (sB.getD j []).getD k 0 < 128 := by
  by_cases hj : j < sB.length
  · have e : sB.getD j [] = sB[j] := by simp [List.getD, List.getElem?_eq_getElem hj]
    rw [e]
    by_cases hk : k < sB[j].length
    · have e2 : (sB[j]).getD k 0 = sB[j][k] := by simp [List.getD, List.getElem?_eq_getElem hk]
      rw [e2]
      exact sB_r2 _ (List.getElem_mem hj) _ (List.getElem_mem hk)
    · have e2 : (sB[j]).getD k 0 = 0 := by simp [List.getD, List.getElem?_eq_none (Nat.le_of_not_lt hk)]
      rw [e2]
      exact ⟨by decide, by decide⟩
  · have e : sB.getD j [] = [] := by simp [List.getD, List.getElem?_eq_none (Nat.le_of_not_lt hj)]
    rw [e]
    have e2 : ([] : List Int).getD k 0 = 0 := by simp [List.getD]
    rw [e2]
    exact ⟨by decide, by decide⟩
theorem chrE (j k : Nat) : w16u (iand ((sB.getD j []).getD k 0) 255) = (sB.getD j []).getD k 0 := by
  have h := chr_r j k
  rw [iand_255 (by omega) (by omega)]
  unfold w16u
  omega
