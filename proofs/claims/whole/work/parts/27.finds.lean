/-! the reference finds its rungs; C counts, D names the day -/
theorem finds_gen {a f g : Nat} (e4 : rt a 0 = f) (e5 : rt a 6 = g) (e6 : ∀ x : Int, 0 ≤ w32 x → w32 x < 61 → inb f x) (e7 : ∀ x : Int, 0 ≤ w32 x → w32 x < 5 → inb g x) (n1 : f ≠ a) (n2 : g ≠ a) (n3 : f ≠ g) {M : Mem} {Q : Mem → Prop} (C D : Nat → Nat) (hC0 : C 0 = 0) (hC : ∀ k, C (k + 1) = C k + if 0 < M f (k + 1) then 1 else 0) (hm : ∀ m n, m ≤ n → C m ≤ C n) (hD : ∀ k, k + 1 ≤ 60 → 0 < M f (k + 1) → D (C k) = k + 1) (hr : ∀ j, j ≤ 60 → R32 (M f j)) (h5 : C 60 ≤ 5)
    (h : ∀ M', M' a 5 = (C 60 : Int) → (∀ i, i < C 60 → M' g i = (D i : Int)) → (∀ k j, k ≠ g → ¬ (k = a ∧ j = 5) → M' k j = M k j) → Q M') : wp_X12_finds a M Q := by
  unfold wp_X12_finds
  rintro M2 rfl
  refine ⟨fun M' x1 => ∃ k : Nat, x1 = (k : Int) + 1 ∧ k ≤ 60 ∧ M' a 5 = (C k : Int) ∧ (∀ i, i < C k → M' g i = (D i : Int)) ∧ ∀ c j, c ≠ g → ¬ (c = a ∧ j = 5) → M' c j = M c j, fun M' x1 => (61 - x1).toNat, ⟨0, rfl, by omega, by rw [hC0]; exact st2_s _ _ _ _, fun i hi => absurd hi (by rw [hC0]; exact Nat.not_lt_zero _), fun c j _ hc => st2_n _ _ hc⟩, ?_⟩
  rintro M1 x1 ⟨k, rfl, hk, f1, f2, f3⟩
  unfold wp_X12_finds_B7 wp_X12_finds_b39
  dsimp only
  have e1 : w32 ((k : Int) + 1) = (k : Int) + 1 := w32_id (by omega) (by omega)
  have e2 : ix ((k : Int) + 1) = k + 1 := by rw [show (k : Int) + 1 = ((k + 1 : Nat) : Int) by omega]; exact ixn (by omega)
  have e3 : w32 60 = 60 := rfl
  rw [e1, e2, e3, e4, e5, f1]
  refine ⟨fun h1 => ?_, fun h1 => ⟨e6 _ (by rw [e1]; omega) (by rw [e1]; omega), ?_⟩⟩
  · have : k = 60 := by omega
    subst this
    exact h M1 f1 f2 f3
  · have hk2 : k + 1 ≤ 60 := by omega
    have g1 : M1 f (k + 1) = M f (k + 1) := f3 f (k + 1) n3 (fun q => n1 q.1)
    have g2 := hC k
    have g3 := hm (k + 1) 60 hk2
    rw [g1, w32_R (hr (k + 1) hk2)]
    clear e1 e2 e3
    refine ⟨fun h2 => ⟨⟨k + 1, by omega, hk2, ?_⟩, by omega⟩, fun h2 => ?_⟩
    · rw [if_neg (by omega), Nat.add_zero] at g2
      rw [g2]
      exact ⟨rfl, f2, f3⟩
    · rw [if_pos (by omega)] at g2
      have hc : C k ≤ 4 := by omega
      have hq := hD k hk2 (by omega)
      rintro M34 rfl
      refine ⟨?_, ?_⟩
      · have w1 : w32 (C k : Int) = (C k : Int) := w32_id (by omega) (by omega)
        refine e7 _ ?_ ?_
        · rw [w1]
          exact Int.natCast_nonneg _
        · rw [w1]
          clear w1
          omega
      rintro M38 rfl
      rw [show ix (C k : Int) = C k from ixn (Nat.lt_of_le_of_lt hc (by decide))]
      refine ⟨⟨k + 1, by omega, hk2, ?_, ?_, ?_⟩, by omega⟩
      · rw [st2_n _ _ (fun q => n2 q.1.symm), st2_s]
        omega
      · intro i hi
        by_cases q : i = C k
        · subst q
          rw [st2_s, hq]
          omega
        · rw [st2_n _ _ (fun z => q z.2), st2_n _ _ (fun z => n2 z.1)]
          exact f2 i (by omega)
      · intro c j c1 c2
        rw [st2_n _ _ (fun z => c1 z.1), st2_n _ _ c2]
        exact f3 c j c1 c2
theorem finds_ok {M : Mem} {Q : Mem → Prop} (hr : ∀ j, j ≤ 60 → R32 (M 190 j)) (h5 : cnt (M 190) 60 ≤ 5)
    (h : ∀ M', M' 189 5 = (rungs (M 190) : Int) → (∀ i, i < rungs (M 190) → M' 194 i = (dayS (M 190) i : Int)) → (∀ k j, k ≠ 194 → ¬ (k = 189 ∧ j = 5) → M' k j = M k j) → Q M') : wp_X12_finds 189 M Q :=
  finds_gen rtv_189_0 rtv_189_6 (fun x u1 u2 => ⟨u1, u2⟩) (fun x u1 u2 => ⟨u1, u2⟩) (by decide) (by decide) (by decide) (cnt (M 190)) (dayS (M 190)) rfl (cnt_succ _) (fun m n => cnt_mono _) (fun k h1 h2 => (dayS_eq (d := M 190) (k := k + 1) (Nat.le_add_left 1 k) h1 h2).2) hr h5 h
