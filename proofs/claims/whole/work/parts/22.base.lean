/-! plain facts: what is seen of whole numbers -/
theorem w32_id {z : Int} (h1 : -2147483648 ≤ z) (h2 : z < 2147483648) : w32 z = z := by unfold w32; omega
theorem w64_id {z : Int} (h1 : -9223372036854775808 ≤ z) (h2 : z < 9223372036854775808) : w64 z = z := by unfold w64; omega
theorem w32_R {z : Int} (h : R32 z) : w32 z = z := w32_id h.1 h.2
theorem ixn {j : Nat} (h : j < 2147483648) : ix (j : Int) = j := by unfold ix w32; omega
theorem ixz {z : Int} (h1 : 0 ≤ z) (h2 : z < 2147483648) : ix z = z.toNat := by unfold ix w32; omega
theorem bz_ne {r : Bool} : (¬ w32 (bz r) = 0) ↔ r = true := by cases r <;> decide
/-! tests without a cell -/
theorem X12_within_iff {a lo hi : Int} {M : Mem} {Q : Bool → Prop} : wp_X12_within a lo hi M Q ↔ Q (decide (w32 lo ≤ w32 a ∧ w32 a ≤ w32 hi)) := by
  unfold wp_X12_within
  grind
theorem X11_within_iff {a lo hi : Int} {M : Mem} {Q : Bool → Prop} : wp_X11_within a lo hi M Q ↔ Q (decide (w32 lo ≤ w32 a ∧ w32 a ≤ w32 hi)) := by
  unfold wp_X11_within
  grind
theorem X11_isSort_iff {a : Int} {M : Mem} {Q : Bool → Prop} : wp_X11_isSort a M Q ↔ Q (decide (w32 a = 0 ∨ w32 a = 1)) := by
  unfold wp_X11_isSort
  have e : w32 1 = 1 := rfl
  rw [e]
  grind
