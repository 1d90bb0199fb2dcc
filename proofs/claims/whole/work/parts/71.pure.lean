/-! the pure part: numbers -/
theorem litI (n : Nat) : (OfNat.ofNat n : Int32) = nI n := rfl
theorem litL (n : Nat) : (OfNat.ofNat n : Int64) = lN n := rfl
theorem vpi {x : Int32} {n : Nat} (hn : n < 2 ^ 31) : vp_in x n ↔ 0 ≤ x ∧ x < nI n := by
  rw [vp_in_iff, Int32.le_iff_toInt_le, Int32.lt_iff_toInt_lt, nI_toInt hn, Int32.toInt_zero]
theorem vp900 {x : Int32} : vp_in x 900 ↔ 0 ≤ x ∧ x < 900 := vpi (by decide)
theorem vp2000 {x : Int32} : vp_in x 2000 ↔ 0 ≤ x ∧ x < 2000 := vpi (by decide)
theorem vp256 {x : Int32} : vp_in x 256 ↔ 0 ≤ x ∧ x < 256 := vpi (by decide)
theorem vp8 {x : Int32} : vp_in x 8 ↔ 0 ≤ x ∧ x < 8 := vpi (by decide)
theorem vp2 {x : Int32} : vp_in x 2 ↔ 0 ≤ x ∧ x < 2 := vpi (by decide)
theorem vp24 {x : Int32} : vp_in x 24 ↔ 0 ≤ x ∧ x < 24 := vpi (by decide)
theorem vp16 {x : Int32} : vp_in x 16 ↔ 0 ≤ x ∧ x < 16 := vpi (by decide)
theorem vp127 {x : Int32} : vp_in x 127 ↔ 0 ≤ x ∧ x < 127 := vpi (by decide)
theorem vp110 {x : Int32} : vp_in x 110 ↔ 0 ≤ x ∧ x < 110 := vpi (by decide)
theorem vp120 {x : Int32} : vp_in x 120 ↔ 0 ≤ x ∧ x < 120 := vpi (by decide)
theorem vp512 {x : Int32} : vp_in x 512 ↔ 0 ≤ x ∧ x < 512 := vpi (by decide)
theorem L64lt (a b : Int32) : a.toInt64 < b.toInt64 ↔ a < b := by
  rw [Int64.lt_iff_toInt_lt, Int32.lt_iff_toInt_lt, Int32.toInt_toInt64, Int32.toInt_toInt64]
theorem L64le (a b : Int32) : a.toInt64 ≤ b.toInt64 ↔ a ≤ b := by
  rw [Int64.le_iff_toInt_le, Int32.le_iff_toInt_le, Int32.toInt_toInt64, Int32.toInt_toInt64]
theorem L64eq (a b : Int32) : a.toInt64 = b.toInt64 ↔ a = b := by
  rw [← Int64.toInt_inj, ← Int32.toInt_inj, Int32.toInt_toInt64, Int32.toInt_toInt64]
theorem L64n (a : Int32) : a.toInt64 < 0 ↔ a < 0 := L64lt a 0
theorem L64s (a b : Int32) : b.toInt64 < a.toInt64 + 1 ↔ b ≤ a := by
  have h1 := Int32.toInt_lt a
  have h2 := Int32.le_toInt a
  rw [Int64.lt_iff_toInt_lt, Int32.le_iff_toInt_le, Jvm.Kit.i64_add (by rw [Int32.toInt_toInt64]; have : Int64.toInt 1 = 1 := rfl; omega) (by rw [Int32.toInt_toInt64]; have : Int64.toInt 1 = 1 := rfl; omega), Int32.toInt_toInt64, Int32.toInt_toInt64]
  have : Int64.toInt 1 = 1 := rfl
  omega
theorem i_of (a : Int32) : a < 0 ∨ ∃ k : Nat, k < 2 ^ 31 ∧ a = nI k := by
  by_cases h : a < 0
  · exact Or.inl h
  · exact Or.inr (nI_of h)
theorem nlt0 {k : Nat} (h : k < 2 ^ 31) : ¬ nI k < 0 := nI_pos h
theorem upd_at {f : Nat → Int32} {k j : Nat} {x : Int32} : upd f k x j = if j = k then x else f j := rfl
