/-! the reference finds its rungs; C counts, D names the day -/
theorem finds_gen {a f g : Nat} (e4 : rt a 0 = f) (e5 : rt a 6 = g) (e6 : ln f = 61) (e7 : ln g = 5) (n1 : f ≠ a) (n2 : g ≠ a) (n3 : f ≠ g) {M : Mem} {Q : Mem → Prop} (C D : Nat → Nat) (hC0 : C 0 = 0) (hC : ∀ k, C (k + 1) = C k + if 0 < M f (k + 1) then 1 else 0) (hm : ∀ m n, m ≤ n → C m ≤ C n) (hD : ∀ k, k + 1 ≤ 60 → 0 < M f (k + 1) → D (C k) = k + 1) (hr : ∀ j, j ≤ 60 → R32 (M f j)) (h5 : C 60 ≤ 5)
    (h : ∀ M', M' a 5 = (C 60 : Int) → (∀ i, i < C 60 → M' g i = (D i : Int)) → (∀ k j, k ≠ g → ¬ (k = a ∧ j = 5) → M' k j = M k j) → Q M') : wp_X12_finds a M Q := by
  unfold wp_X12_finds
  rintro M2 rfl
  refine ⟨fun M' x1 => ∃ k : Nat, x1 = (k : Int) + 1 ∧ k ≤ 60 ∧ M' a 5 = (C k : Int) ∧ (∀ i, i < C k → M' g i = (D i : Int)) ∧ ∀ c j, c ≠ g → ¬ (c = a ∧ j = 5) → M' c j = M c j, fun M' x1 => (61 - x1).toNat, ⟨0, rfl, by omega, by rw [hC0]; exact st2_s _ _ _ _, fun i hi => absurd hi (by rw [hC0]; exact Nat.not_lt_zero _), fun c j _ hc => st2_n _ _ hc⟩, ?_⟩
  rintro M1 x1 ⟨k, rfl, hk, f1, f2, f3⟩
  unfold wp_X12_finds_B7 wp_X12_finds_b39
  dsimp only
  have e1 : w32 ((k : Int) + 1) = (k : Int) + 1 := w32_id (by omega) (by omega)
  have e2 : ix ((k : Int) + 1) = k + 1 := by rw [show (k : Int) + 1 = ((k + 1 : Nat) : Int) by omega]; exact ixn (by omega)
  have e3 : w32 60 = 60 := rfl
  rw [e1, e2, e3, e4, e5, f1]
  refine ⟨fun h1 => ?_, fun h1 => ⟨⟨by rw [e1]; omega, by rw [e1, e6]; omega⟩, ?_⟩⟩
  · have : k = 60 := by omega
    subst this
    exact h M1 f1 f2 f3
  · have hk2 : k + 1 ≤ 60 := by omega
    sorry
