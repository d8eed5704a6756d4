/-! LEAST of the reference writes nothing that is kept -/
theorem FrZ_ref {M M' : Mem} {y : F1} (hR : RefOK M y) (h : FrZ M M') : RefOK M' y ∧ M' 190 = M 190 ∧ M' 191 = M 191 ∧ M' 192 = M 192 ∧ M' 193 = M 193 ∧ M' 189 3 = M 189 3 ∧ M' 189 5 = M 189 5 := by
  have row : ∀ k, 190 ≤ k → k < 196 → M' k = M k := fun k h1 h2 => funext fun c => h k c (by omega) (by omega)
  have e3 := h 189 3 (by omega) (by omega)
  have e5 := h 189 5 (by omega) (by omega)
  refine ⟨?_, row 190 (by decide) (by decide), row 191 (by decide) (by decide), row 192 (by decide) (by decide), row 193 (by decide) (by decide), e3, e5⟩
  unfold RefOK at *
  rw [row 190 (by decide) (by decide), row 191 (by decide) (by decide), row 192 (by decide) (by decide), row 193 (by decide) (by decide), row 194 (by decide) (by decide), row 195 (by decide) (by decide), e3, e5]
  exact hR
theorem keep_z {k j : Nat} (h : keep k j = true) : ¬ (k = 189 ∧ 8 ≤ j ∧ j ≤ 11) ∧ ¬ (196 ≤ k ∧ k < 204) := by
  constructor
  · rintro ⟨rfl, h1, h2⟩
    unfold keep at h
    simp only [Bool.or_eq_true, decide_eq_true_eq] at h
    rw [if_neg (by decide), if_neg (by decide), if_neg (by decide), if_neg (by decide), if_neg (by decide), if_neg (by decide), if_neg (by decide), if_neg (by decide), if_pos (by decide)] at h
    simp only [Bool.or_eq_true, decide_eq_true_eq] at h
    omega
  · rintro ⟨h1, h2⟩
    unfold keep at h
    rw [if_neg (by omega), if_neg (by omega), if_neg (by omega), if_neg (by omega), if_neg (by omega), if_neg (by omega), if_neg (by omega), if_neg (by omega), if_neg (by omega), if_neg (by omega)] at h
    have := of_decide_eq_true h
    omega
theorem Inv_FrZ {DK : Mem → Prop} (hD : KeptH DK) {M M2 : Mem} (hI : Inv DK M) (h : FrZ M M2) : Inv DK M2 :=
  Inv_same (KeptH_Kept hD) (fun k j q => h k j (keep_z q).1 (keep_z q).2) hI
