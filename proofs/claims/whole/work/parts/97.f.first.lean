/-! what is newly made keeps the law's steps -/
theorem cnt_zero {d : F1} (h : ∀ k, k < 61 → d k = 0) : ∀ n, n ≤ 60 → cnt d n = 0
  | 0, _ => cnt_0 d
  | n + 1, hn => by
    rw [cnt_succ, cnt_zero h n (by omega), h (n + 1) (by omega), if_neg (by decide)]
theorem Inv_first {M : Mem} (hC : ∀ k, k < 61 → M 3 k = 0 ∧ M 5 k = -1 ∧ M 7 k = -1) (hR : ∀ k, k < 61 → M 190 k = 0 ∧ M 191 k = 0 ∧ M 192 k = 0) (hK : M 2 1 = 0 ∧ M 2 2 = 5 ∧ M 4 1 = -1 ∧ M 4 2 = 6 ∧ M 6 1 = -1 ∧ M 6 2 = 5) (h4 : M 1 4 = 0 ∧ M 189 3 = 0 ∧ M 189 5 = 0) (hF : fb M 0 2 = false ∧ fb M 189 28 = false ∧ fb M 0 5 = true) (hN : ∀ i, i < 5 → M 69 i = -1 ∧ M 195 i = -1) (hS : ∀ j, j < 4 → M (181 + 2 * j) 1 = -1 ∧ M (181 + 2 * j) 2 = 0 ∧ M 209 j = 0 ∧ M 210 j = 0) (hT : ∀ j, j < 4 → ∀ i, i < 40 → M (182 + 2 * j) i = 0) (hU : ∀ i, i < 160 → M 211 i = 0) : Inv DKs M := by
  have c0 := cnt_zero (d := M 190) (fun k hk => (hR k hk).1) 60 (Nat.le_refl _)
  have c1 := cnt_zero (d := M 191) (fun k hk => (hR k hk).2.1) 60 (Nat.le_refl _)
  have c2 := cnt_zero (d := M 192) (fun k hk => (hR k hk).2.2) 60 (Nat.le_refl _)
  have rg : rungs (M 190) = 0 := c0
  refine ⟨⟨fun k hk => ?_, hR 0 (by decide), by rw [c0]; decide, by rw [c1]; decide, by rw [c2]; decide, ?_, ?_, ?_, fun b hb => ?_⟩, hK, ⟨?_, fun i hi => ?_, fun i hi => (hN i hi).2⟩, ⟨?_, fun z => ?_⟩, fun j hj => ?_, fun i hi => (hN i hi).1, fun z => ?_⟩
  · obtain ⟨a1, a2, a3⟩ := hC k (by omega)
    obtain ⟨b1, b2, b3⟩ := hR k (by omega)
    rw [a1, a2, a3, b1, b2, b3]
    decide
  · rw [h4.1, h4.2.1]
  · rw [h4.2.1]; decide
  · rw [h4.2.1]; decide
  · rw [h4.2.1] at hb
    omega
  · rw [h4.2.2, rg]
    rfl
  · rw [rg] at hi
    omega
  · rw [hF.1, hF.2.1]
  · rw [hF.1] at z
    cases z
  · obtain ⟨a1, a2, a3, a4⟩ := hS j hj
    rw [a1, a2, a3, a4]
    refine ⟨by decide, by decide, by decide, rfl, by decide, by decide, fun _ => rfl, fun i hi => ?_⟩
    rw [hT j hj i hi, hU (40 * j + i) (by omega)]
    exact ⟨rfl, R32_i (by decide) (by decide)⟩
  · rw [hF.2.2] at z
    cases z
theorem new_C : ∀ k, k < 61 → M_new 3 k = 0 ∧ M_new 5 k = -1 ∧ M_new 7 k = -1 := by decide +kernel
theorem new_R : ∀ k, k < 61 → M_new 190 k = 0 ∧ M_new 191 k = 0 ∧ M_new 192 k = 0 := by decide +kernel
theorem new_K : M_new 2 1 = 0 ∧ M_new 2 2 = 5 ∧ M_new 4 1 = -1 ∧ M_new 4 2 = 6 ∧ M_new 6 1 = -1 ∧ M_new 6 2 = 5 := by decide +kernel
theorem new_4 : M_new 1 4 = 0 ∧ M_new 189 3 = 0 ∧ M_new 189 5 = 0 := by decide +kernel
theorem new_F : fb M_new 0 2 = false ∧ fb M_new 189 28 = false ∧ fb M_new 0 5 = true := by decide +kernel
theorem new_N : ∀ i, i < 5 → M_new 69 i = -1 ∧ M_new 195 i = -1 := by decide +kernel
theorem new_S : ∀ j, j < 4 → M_new (181 + 2 * j) 1 = -1 ∧ M_new (181 + 2 * j) 2 = 0 ∧ M_new 209 j = 0 ∧ M_new 210 j = 0 := by decide +kernel
theorem new_T : ∀ j, j < 4 → ∀ i, i < 40 → M_new (182 + 2 * j) i = 0 := by decide +kernel
theorem new_U : ∀ i, i < 160 → M_new 211 i = 0 := by decide +kernel
theorem inv_new : Inv DKs M_new := Inv_first new_C new_R new_K new_4 new_F new_N new_S new_T new_U
