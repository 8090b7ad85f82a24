/-! numbers and cases that the walks meet -/
theorem tc_ix4 (c i : Nat) : nI c * 4 + nI i = nI (4 * c + i) := by
  rw [show (4 : Int32) = nI 4 from rfl, pk_mul, nI_add, Nat.mul_comm]
theorem tc_iy4 (c i : Nat) : 4 * nI c + nI i = nI (4 * c + i) := by
  rw [show (4 : Int32) = nI 4 from rfl, pk_mul, nI_add]
theorem tc_ix16 (r x : Nat) : nI r * 16 + nI x = nI (r * 16 + x) := by
  rw [show (16 : Int32) = nI 16 from rfl, pk_mul, nI_add]
theorem tc_iy16 (r x : Nat) : 16 * nI r + nI x = nI (r * 16 + x) := by
  rw [show (16 : Int32) = nI 16 from rfl, pk_mul, nI_add, Nat.mul_comm]
theorem tc_cc (v : Int32) (n : Nat) (hn : n < 2 ^ 31) : (v < 0 ∨ nI n ≤ v) ∨ ∃ j : Nat, j < n ∧ v = nI j := by
  rcases pk_ix v hn with h | h | h
  · exact Or.inl (Or.inl h)
  · exact Or.inl (Or.inr h)
  · exact Or.inr h
theorem tc_10 : ¬ (1 : Int32) = 0 := by decide
theorem tc_01 : ¬ (0 : Int32) = 1 := by decide
theorem tc_gt3 {v : Int32} (h : nI 4 ≤ v) : (3 : Int32) < v := by
  rw [Int32.lt_iff_toInt_lt]
  rw [Int32.le_iff_toInt_le, nI_toInt (by decide)] at h
  have e : (3 : Int32).toInt = 3 := by decide
  omega
theorem tc_gt15 {v : Int32} (h : nI 16 ≤ v) : (15 : Int32) < v := by
  rw [Int32.lt_iff_toInt_lt]
  rw [Int32.le_iff_toInt_le, nI_toInt (by decide)] at h
  have e : (15 : Int32).toInt = 15 := by decide
  omega
