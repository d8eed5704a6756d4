/-! which rungs have rooms, in the reference -/
theorem isRoom_ok {M : Mem} (hR : RefOK M noY) {i : Nat} (hi : i < rungs (M 190)) {Q : Bool → Prop} (h : Q (decide (i + 1 < rungs (M 190) ∧ M 192 (dayS (M 190) i) - 1 ≠ -1))) : wp_X12_isRoom 189 (i : Int) M Q := by
  obtain ⟨N, hN⟩ : ∃ N, N = rungs (M 190) := ⟨_, rfl⟩
  have h5 := hR.2.2.1
  have hd := hR.2.2.2.1 i hi
  have h6 := hR.2.1
  obtain ⟨d1, d2, -⟩ := dayS_ok hi
  have hl := hR.1 (dayS (M 190) i) d2
  have e : rt 189 6 = 194 ∧ rt 189 2 = 192 := by decide +kernel
  unfold wp_X12_isRoom
  rw [e.1, e.2, ixn (show i < 2147483648 by omega), hd, h5]
  rw [← hN] at h h5 h6 hi ⊢
  rw [w32_id (z := (N : Int) - 1) (by omega) (by omega), w32n (show i < 2147483648 by omega), ixn (show dayS (M 190) i < 2147483648 by omega), w32_id (z := M 192 (dayS (M 190) i)) (by omega) (by omega)]
  refine ⟨fun u => ?_, fun u => ⟨inbn LN_194 (by omega), inbn LN_192 (by omega), fun v => ?_, fun v => ?_⟩⟩
  · rw [decide_eq_false (by omega)] at h; exact h
  · rw [decide_eq_false (by omega)] at h; exact h
  · rw [decide_eq_true (by omega)] at h; exact h
