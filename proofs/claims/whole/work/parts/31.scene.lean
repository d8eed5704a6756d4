/-! what follows from a book: rungs, rates of days -/
def SC (s : Nat) : Prop := s = 27 ∨ s = 48
theorem SC_rt {s : Nat} (h : SC s) : rt s 1 = s + 1 ∧ rt s 2 = s + 2 ∧ rt s 3 = s + 3 ∧ rt s 4 = s + 4 ∧ rt s 5 = s + 5 ∧ rt s 6 = s + 6 ∧ rt s 7 = s + 7 ∧ rt s 8 = s + 13 ∧ rt s 9 = s + 19 ∧ rt s 10 = s + 20 := by
  rcases h with rfl | rfl <;> decide +kernel
theorem SC_rt7 {s : Nat} (h : SC s) : ∀ b, b < 5 → rt (s + 7) b = s + 8 + b := by
  rcases h with rfl | rfl <;> decide +kernel
theorem SC_rt13 {s : Nat} (h : SC s) : ∀ b, b < 5 → rt (s + 13) b = s + 14 + b := by
  rcases h with rfl | rfl <;> decide +kernel
theorem SC_ln {s : Nat} (h : SC s) : LN (s + 1) 5 ∧ LN (s + 2) 5 ∧ LN (s + 3) 5 ∧ LN (s + 4) 5 ∧ LN (s + 5) 61 ∧ LN (s + 6) 61 ∧ LN (s + 7) 5 ∧ LN (s + 13) 5 ∧ LN (s + 19) 5 ∧ LN (s + 20) 5 := by
  unfold LN
  rcases h with rfl | rfl <;> decide +kernel
theorem SC_ln8 {s : Nat} (h : SC s) : ∀ b, b < 5 → LN (s + 8 + b) 61 := by
  unfold LN
  rcases h with rfl | rfl <;> decide +kernel
theorem SC_ln14 {s : Nat} (h : SC s) : ∀ b, b < 5 → LN (s + 14 + b) 5 := by
  unfold LN
  rcases h with rfl | rfl <;> decide +kernel
theorem SC_big {s : Nat} (h : SC s) : 27 ≤ s ∧ s ≤ 48 := by
  rcases h with rfl | rfl <;> decide
theorem layRungs_gen {s : Nat} (hs : SC s) {M : Mem} {Q : Mem → Prop} (C D : Nat → Nat) (hC0 : C 0 = 0) (hC : ∀ k, k + 1 ≤ 60 → C (k + 1) = C k + if 0 < M 3 (k + 1) then 1 else 0) (hm : ∀ m n, m ≤ n → C m ≤ C n) (hD : ∀ k, k + 1 ≤ 60 → 0 < M 3 (k + 1) → D (C k) = k + 1) (hr : ∀ j, j ≤ 60 → 0 ≤ M 3 j ∧ M 3 j ≤ 99) (h5 : C 60 ≤ 5)
    (h : ∀ M' : Mem, M' s 0 = (C 60 : Int) → (∀ i, i < C 60 → M' (s + 1) i = (D i : Int) ∧ M' (s + 2) i = M 3 (D i) ∧ M' (s + 4) i = M 7 (D i)) → (∀ k, k < 60 → M' (s + 5) (k + 1) = if C k < C 60 then (C k : Int) else -1) → (∀ k j, k ≠ s → k ≠ s + 1 → k ≠ s + 2 → k ≠ s + 4 → k ≠ s + 5 → M' k j = M k j) → Q M') : wp_X8_layRungs s 1 M Q := by
  have hsb := SC_big hs
  have l1 := (SC_ln hs).1
  have l2 := (SC_ln hs).2.1
  have l4 := (SC_ln hs).2.2.2.1
  have l5 := (SC_ln hs).2.2.2.2.1
  unfold wp_X8_layRungs
  rintro M2 rfl
  refine ⟨fun M' x2 => ∃ k : Nat, x2 = ((k + 1 : Nat) : Int) ∧ k ≤ 60 ∧ M' s 0 = (C k : Int) ∧ (∀ i, i < C k → M' (s + 1) i = (D i : Int) ∧ M' (s + 2) i = M 3 (D i) ∧ M' (s + 4) i = M 7 (D i)) ∧ (∀ j, j < k → M' (s + 5) (j + 1) = (C j : Int)) ∧ (∀ a j, a ≠ s → a ≠ s + 1 → a ≠ s + 2 → a ≠ s + 4 → a ≠ s + 5 → M' a j = M a j), fun _ x2 => (61 - x2).toNat, ⟨0, rfl, by omega, ?_, ?_, ?_, ?_⟩, ?_⟩
  · rw [hC0]; exact st2_s _ _ _ _
  · intro i hi; rw [hC0] at hi; omega
  · intro j hj; omega
  · intro a j a1 _ _ _ _; exact st2_n _ _ (fun z => a1 z.1)
  rintro M1 x2 ⟨k, rfl, hk, f1, f2, f3, f4⟩
  unfold wp_X8_layRungs_B7 wp_X8_layRungs_b99
  dsimp only
  rw [wl_60, w32n (show k + 1 < 2147483648 by omega), ixn (show k + 1 < 2147483648 by omega), rtv_1_0, rtv_2_0, rtv_1_2, rtv_6_0, (SC_rt hs).1, (SC_rt hs).2.1, (SC_rt hs).2.2.2.1, (SC_rt hs).2.2.2.2.1]
  refine ⟨fun u => ?_, fun u => ⟨inbn l5 (by omega), ?_⟩⟩
  · have hk60 : k = 60 := by omega
    subst hk60
    clear u hk
    unfold wp_X8_layRungs_L108
    refine ⟨fun M' x2 => ∃ m : Nat, x2 = (m : Int) ∧ m ≤ 60 ∧ M' s 0 = (C 60 : Int) ∧ (∀ i, i < C 60 → M' (s + 1) i = (D i : Int) ∧ M' (s + 2) i = M 3 (D i) ∧ M' (s + 4) i = M 7 (D i)) ∧ (∀ j, j < m → M' (s + 5) (j + 1) = (C j : Int)) ∧ (∀ j, m ≤ j → j < 60 → C j = C 60 ∧ M' (s + 5) (j + 1) = -1) ∧ (∀ a j, a ≠ s → a ≠ s + 1 → a ≠ s + 2 → a ≠ s + 4 → a ≠ s + 5 → M' a j = M a j), fun _ x2 => x2.toNat, ⟨60, rfl, Nat.le_refl _, f1, f2, f3, fun j a b => by omega, f4⟩, ?_⟩
    rintro M3 x3 ⟨m, rfl, hm60, g1, g2, g3, g4, g5⟩
    unfold wp_X8_layRungs_B108
    dsimp only
    rw [wl_1, w32n (show m < 2147483648 by omega), ixn (show m < 2147483648 by omega), (SC_rt hs).2.2.2.2.1, g1]
    have fin : (∀ j, j < m → C j < C 60) → Q M3 := by
      intro hlt
      refine h M3 g1 g2 (fun j hj => ?_) g5
      by_cases q : j < m
      · rw [if_pos (hlt j q)]; exact g3 j q
      · obtain ⟨q1, q2⟩ := g4 j (by omega) hj
        rw [if_neg (by omega)]; exact q2
    refine ⟨fun u => fin (fun j hj => by omega), fun u => ?_⟩
    obtain ⟨n, rfl⟩ : ∃ n, m = n + 1 := ⟨m - 1, by omega⟩
    have g6 := g3 n (by omega)
    have c1 := hm n 60 (by omega)
    rw [g6, w32n (show C n < 2147483648 by omega), w32n (show C 60 < 2147483648 by omega)]
    refine ⟨inbn l5 (by omega), fun u2 => fin (fun j hj => ?_), fun u2 => ⟨inbn l5 (by omega), ?_⟩⟩
    · have := hm j n (by omega)
      omega
    · rintro M132 rfl
      refine ⟨⟨n, by omega, by omega, ?_, fun i hi => ?_, fun j hj => ?_, fun j hj hj2 => ?_, fun a j a1 a2 a3 a4 a5 => ?_⟩, by omega⟩
      · rw [st2_n _ _ (by omega)]; exact g1
      · rw [st2_n _ _ (by omega), st2_n _ _ (by omega), st2_n _ _ (by omega)]; exact g2 i hi
      · rw [st2_n _ _ (by omega)]; exact g3 j (by omega)
      · by_cases q : j = n
        · subst q
          exact ⟨by omega, st2_s _ _ _ _⟩
        · rw [st2_n _ _ (by omega)]; exact g4 j (by omega) hj2
      · rw [st2_n _ _ (by omega)]; exact g5 a j a1 a2 a3 a4 a5
  · have hk2 : k + 1 ≤ 60 := by omega
    have hCk := hC k hk2
    have hCm := hm (k + 1) 60 hk2
    have hd0 := hr (k + 1) hk2
    have hM3 : M1 3 (k + 1) = M 3 (k + 1) := f4 3 (k + 1) (by omega) (by omega) (by omega) (by omega) (by omega)
    have hM7 : M1 7 (k + 1) = M 7 (k + 1) := f4 7 (k + 1) (by omega) (by omega) (by omega) (by omega) (by omega)
    rintro M22 rfl
    refine ⟨inbn LN_3 (by omega), ?_⟩
    rw [st2_n M1 _ (show ¬ (3 = s + 5 ∧ k + 1 = k + 1) by omega), st2_n M1 _ (show ¬ (s = s + 5 ∧ 0 = k + 1) by omega), hM3, f1, w32_id (z := M 3 (k + 1)) (by omega) (by omega)]
    refine ⟨fun u2 => ?_, fun u2 => ?_⟩
    · rw [if_neg (by omega), Nat.add_zero] at hCk
      refine ⟨⟨k + 1, rfl, hk2, ?_, ?_, ?_, ?_⟩, by omega⟩
      · rw [hCk, Nat.add_zero]
      · intro i hi
        rw [st2_n _ _ (by omega), st2_n _ _ (by omega), st2_n _ _ (by omega)]
        exact f2 i (by omega)
      · intro j hj
        by_cases q : j = k
        · subst q; exact st2_s _ _ _ _
        · rw [st2_n _ _ (by omega)]; exact f3 j (by omega)
      · intro a j a1 a2 a3 a4 a5
        rw [st2_n _ _ (by omega)]; exact f4 a j a1 a2 a3 a4 a5
    · rw [if_pos (by omega)] at hCk
      have hDk := hD k hk2 (by omega)
      have hc4 : C k ≤ 4 := by omega
      rw [wl_5, w32n (show C k < 2147483648 by omega)]
      refine ⟨fun u3 => absurd u3 (by omega), fun u3 => ⟨inbn l1 (by omega), ?_⟩⟩
      rw [ixn (show C k < 2147483648 by omega)]
      rintro M52 rfl
      refine ⟨inbn LN_3 (by omega), ?_⟩
      rw [st2_n _ _ (show ¬ (s = s + 1 ∧ 0 = C k) by omega), st2_n _ _ (show ¬ (s = s + 5 ∧ 0 = k + 1) by omega), f1]
      refine ⟨inbn l2 (by omega), ?_⟩
      rw [ixn (show C k < 2147483648 by omega), st2_n _ _ (show ¬ (3 = s + 1 ∧ k + 1 = C k) by omega), st2_n M1 _ (show ¬ (3 = s + 5 ∧ k + 1 = k + 1) by omega), hM3]
      rintro M70 rfl
      refine ⟨inbn LN_7 (by omega), ?_⟩
      rw [st2_n _ _ (show ¬ (s = s + 2 ∧ 0 = C k) by omega), st2_n _ _ (show ¬ (s = s + 1 ∧ 0 = C k) by omega), st2_n _ _ (show ¬ (s = s + 5 ∧ 0 = k + 1) by omega), f1]
      refine ⟨inbn l4 (by omega), ?_⟩
      rw [ixn (show C k < 2147483648 by omega), st2_n _ _ (show ¬ (7 = s + 2 ∧ k + 1 = C k) by omega), st2_n _ _ (show ¬ (7 = s + 1 ∧ k + 1 = C k) by omega), st2_n M1 _ (show ¬ (7 = s + 5 ∧ k + 1 = k + 1) by omega), hM7]
      rintro M88 rfl
      rw [st2_n _ _ (show ¬ (s = s + 4 ∧ 0 = C k) by omega), st2_n _ _ (show ¬ (s = s + 2 ∧ 0 = C k) by omega), st2_n _ _ (show ¬ (s = s + 1 ∧ 0 = C k) by omega), st2_n _ _ (show ¬ (s = s + 5 ∧ 0 = k + 1) by omega), f1]
      rintro M96 rfl
      refine ⟨⟨k + 1, rfl, hk2, ?_, ?_, ?_, ?_⟩, by omega⟩
      · rw [st2_s, hCk]; rfl
      · intro i hi
        by_cases q : i = C k
        · subst q
          rw [st2_n _ _ (show ¬ (s + 1 = s ∧ C k = 0) by omega), st2_n _ _ (show ¬ (s + 1 = s + 4 ∧ C k = C k) by omega), st2_n _ _ (show ¬ (s + 1 = s + 2 ∧ C k = C k) by omega), st2_s]
          rw [st2_n _ _ (show ¬ (s + 2 = s ∧ C k = 0) by omega), st2_n _ _ (show ¬ (s + 2 = s + 4 ∧ C k = C k) by omega), st2_s]
          rw [st2_n _ _ (show ¬ (s + 4 = s ∧ C k = 0) by omega), st2_s, hDk]
          exact ⟨rfl, rfl, rfl⟩
        · have hi2 : i < C k := by omega
          rw [st2_n _ _ (show ¬ (s + 1 = s ∧ i = 0) by omega), st2_n _ _ (show ¬ (s + 1 = s + 4 ∧ i = C k) by omega), st2_n _ _ (show ¬ (s + 1 = s + 2 ∧ i = C k) by omega), st2_n _ _ (show ¬ (s + 1 = s + 1 ∧ i = C k) by omega), st2_n _ _ (show ¬ (s + 1 = s + 5 ∧ i = k + 1) by omega)]
          rw [st2_n _ _ (show ¬ (s + 2 = s ∧ i = 0) by omega), st2_n _ _ (show ¬ (s + 2 = s + 4 ∧ i = C k) by omega), st2_n _ _ (show ¬ (s + 2 = s + 2 ∧ i = C k) by omega), st2_n _ _ (show ¬ (s + 2 = s + 1 ∧ i = C k) by omega), st2_n _ _ (show ¬ (s + 2 = s + 5 ∧ i = k + 1) by omega)]
          rw [st2_n _ _ (show ¬ (s + 4 = s ∧ i = 0) by omega), st2_n _ _ (show ¬ (s + 4 = s + 4 ∧ i = C k) by omega), st2_n _ _ (show ¬ (s + 4 = s + 2 ∧ i = C k) by omega), st2_n _ _ (show ¬ (s + 4 = s + 1 ∧ i = C k) by omega), st2_n _ _ (show ¬ (s + 4 = s + 5 ∧ i = k + 1) by omega)]
          exact f2 i hi2
      · intro j hj
        rw [st2_n _ _ (show ¬ (s + 5 = s ∧ j + 1 = 0) by omega), st2_n _ _ (show ¬ (s + 5 = s + 4 ∧ j + 1 = C k) by omega), st2_n _ _ (show ¬ (s + 5 = s + 2 ∧ j + 1 = C k) by omega), st2_n _ _ (show ¬ (s + 5 = s + 1 ∧ j + 1 = C k) by omega)]
        by_cases q : j = k
        · subst q; exact st2_s _ _ _ _
        · rw [st2_n _ _ (by omega)]; exact f3 j (by omega)
      · intro a j a1 a2 a3 a4 a5
        rw [st2_n _ _ (fun z => a1 z.1), st2_n _ _ (fun z => a4 z.1), st2_n _ _ (fun z => a3 z.1), st2_n _ _ (fun z => a2 z.1), st2_n _ _ (fun z => a5 z.1)]
        exact f4 a j a1 a2 a3 a4 a5
