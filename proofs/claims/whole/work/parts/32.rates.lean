theorem layRates_gen {s yc : Nat} (hs : SC s) (hy : yc = 69 ∨ yc = 70) {M : Mem} {Q : Mem → Prop} (C D : Nat → Nat) (n : Nat) (r y : F1) (hn : n ≤ 5) (h0 : M s 0 = (n : Int)) (hG : ∀ k, k < 60 → M (s + 5) (k + 1) = if C k < n then (C k : Int) else -1) (hD : ∀ i, i < n → M (s + 1) i = (D i : Int) ∧ 1 ≤ D i ∧ D i ≤ 60) (hr : ∀ k, k ≤ 60 → M 5 k = r k - 1 ∧ 0 ≤ r k ∧ r k ≤ 4) (hY : ∀ i, i < 5 → M yc i = y i ∧ -1 ≤ y i ∧ y i ≤ 9)
    (h : ∀ M' : Mem, (∀ k, k < 60 → M' (s + 6) (k + 1) = if C k < n ∧ y (C k) ≠ -1 then y (C k) else rateS r (k + 1)) → (∀ i, i < n → M' (s + 3) i = M' (s + 6) (D i)) → (∀ k j, k ≠ s + 3 → k ≠ s + 6 → M' k j = M k j) → Q M') : wp_X8_layRates s 5 yc M Q := by
  have hsb := SC_big hs
  have ly : LN yc 5 := by
    rcases hy with rfl | rfl
    · exact LN_69
    · exact LN_70
  have hyc : yc ≠ s + 3 ∧ yc ≠ s + 6 := by omega
  have l1 := (SC_ln hs).1
  have l3 := (SC_ln hs).2.2.1
  have l5 := (SC_ln hs).2.2.2.2.1
  have l6 := (SC_ln hs).2.2.2.2.2.1
  unfold wp_X8_layRates
  refine ⟨fun M' x3 x4 => ∃ k : Nat, x4 = ((k + 1 : Nat) : Int) ∧ k ≤ 60 ∧ x3 = rateS r k ∧ (∀ j, j < k → M' (s + 6) (j + 1) = if C j < n ∧ y (C j) ≠ -1 then y (C j) else rateS r (j + 1)) ∧ (∀ a j, a ≠ s + 6 → M' a j = M a j), fun _ _ x4 => (61 - x4).toNat, ⟨0, rfl, by omega, rfl, fun j hj => by omega, fun _ _ _ => rfl⟩, ?_⟩
  rintro M1 x3 x4 ⟨k, rfl, hk, rfl, f1, f2⟩
  unfold wp_X8_layRates_B5
  dsimp only
  rw [wl_60, wm_1, w32n (show k + 1 < 2147483648 by omega), ixn (show k + 1 < 2147483648 by omega)]
  refine ⟨fun u => ?_, fun u => ⟨inbn LN_5 (by omega), ?_⟩⟩
  · have hk60 : k = 60 := by omega
    subst hk60
    clear u hk
    unfold wp_X8_layRates_L76
    refine ⟨fun M' x4 => ∃ i : Nat, x4 = (i : Int) ∧ i ≤ n ∧ (∀ j, j < i → M' (s + 3) j = M1 (s + 6) (D j)) ∧ (∀ a j, a ≠ s + 3 → M' a j = M1 a j), fun _ x4 => ((n : Int) - x4).toNat, ⟨0, rfl, Nat.zero_le _, fun j hj => by omega, fun _ _ _ => rfl⟩, ?_⟩
    rintro M3 x4 ⟨i, rfl, hi, g1, g2⟩
    unfold wp_X8_layRates_B76
    dsimp only
    rw [(SC_rt hs).1, (SC_rt hs).2.2.1, (SC_rt hs).2.2.2.2.2.1, g2 s 0 (by omega), f2 s 0 (by omega), h0, w32n (show i < 2147483648 by omega), w32n (show n < 2147483648 by omega), ixn (show i < 2147483648 by omega), g2 (s + 1) i (by omega), f2 (s + 1) i (by omega)]
    refine ⟨fun u => ?_, fun u => ?_⟩
    · have : i = n := by omega
      subst this
      refine h M3 (fun k hk => ?_) (fun j hj => ?_) (fun a j a1 a2 => ?_)
      · rw [g2 _ _ (by omega)]; exact f1 k hk
      · rw [g1 j hj, g2 _ _ (by omega)]
      · rw [g2 a j a1, f2 a j a2]
    · obtain ⟨d1, d2, d3⟩ := hD i (by omega)
      rw [d1, ixn (show D i < 2147483648 by omega), g2 (s + 6) _ (by omega)]
      refine ⟨inbn l1 (by omega), inbn l6 (by omega), inbn l3 (by omega), ?_⟩
      rintro M103 rfl
      refine ⟨⟨i + 1, rfl, by omega, fun j hj => ?_, fun a j a1 => ?_⟩, by omega⟩
      · by_cases q : j = i
        · subst q; exact st2_s _ _ _ _
        · rw [st2_n _ _ (by omega)]; exact g1 j (by omega)
      · rw [st2_n _ _ (by omega)]; exact g2 a j a1
  · have hk2 : k < 60 := by omega
    have hG1 := hG k hk2
    obtain ⟨r1, r2, r3⟩ := hr (k + 1) (by omega)
    rw [f2 5 (k + 1) (by omega), r1, w32_id (z := r (k + 1) - 1) (by omega) (by omega)]
    have es : rateS r (k + 1) = if r (k + 1) = 0 then rateS r k else r (k + 1) - 1 := rfl
    have main : wp_X8_layRates_b28 s 5 yc Q (fun M' x3' x4' => (∃ k : Nat, x4' = ((k + 1 : Nat) : Int) ∧ k ≤ 60 ∧ x3' = rateS r k ∧ (∀ j, j < k → M' (s + 6) (j + 1) = if C j < n ∧ y (C j) ≠ -1 then y (C j) else rateS r (j + 1)) ∧ (∀ a j, a ≠ s + 6 → M' a j = M a j)) ∧ (61 - x4').toNat < (61 - ((k + 1 : Nat) : Int)).toNat) M1 (rateS r (k + 1)) ((k + 1 : Nat) : Int) := by
      have nxt : ∀ z : Int, (z = if C k < n ∧ y (C k) ≠ -1 then y (C k) else rateS r (k + 1)) → wp_X8_layRates_b66 s 5 yc Q (fun M' x3' x4' => (∃ k : Nat, x4' = ((k + 1 : Nat) : Int) ∧ k ≤ 60 ∧ x3' = rateS r k ∧ (∀ j, j < k → M' (s + 6) (j + 1) = if C j < n ∧ y (C j) ≠ -1 then y (C j) else rateS r (j + 1)) ∧ (∀ a j, a ≠ s + 6 → M' a j = M a j)) ∧ (61 - x4').toNat < (61 - ((k + 1 : Nat) : Int)).toNat) M1 ((k + 1 : Nat) : Int) z (rateS r (k + 1)) ((k + 1 : Nat) : Int) := by
        intro z hz
        unfold wp_X8_layRates_b66
        rw [(SC_rt hs).2.2.2.2.2.1, ixn (show k + 1 < 2147483648 by omega)]
        refine ⟨inbn l6 (by omega), ?_⟩
        rintro M66 rfl
        refine ⟨⟨k + 1, rfl, by omega, rfl, fun j hj => ?_, fun a j a1 => ?_⟩, by omega⟩
        · by_cases q : j = k
          · subst q; rw [st2_s]; exact hz
          · rw [st2_n _ _ (by omega)]; exact f1 j (by omega)
        · rw [st2_n _ _ (by omega)]; exact f2 a j a1
      unfold wp_X8_layRates_b28 wp_X8_layRates_b58
      rw [(SC_rt hs).2.2.2.2.1, ixn (show k + 1 < 2147483648 by omega), f2 (s + 5) _ (by omega), hG1, wm_1]
      by_cases q : C k < n
      · rw [if_pos q] at *
        obtain ⟨y1, y2, y3⟩ := hY (C k) (by omega)
        rw [w32n (show C k < 2147483648 by omega), ixn (show C k < 2147483648 by omega), f2 yc _ hyc.2, y1, w32_id (z := y (C k)) (by omega) (by omega)]
        refine ⟨inbn l5 (by omega), fun u2 => by omega, fun u2 => ⟨inbn ly (by omega), fun u3 => ⟨inbn ly (by omega), nxt _ ?_⟩, fun u3 => nxt _ ?_⟩⟩
        · rw [if_pos ⟨q, u3⟩]
        · rw [if_neg (fun z => u3 z.2)]
      · rw [if_neg q] at *
        refine ⟨inbn l5 (by omega), fun u2 => nxt _ ?_, fun u2 => absurd rfl u2⟩
        rw [if_neg (fun z => q z.1)]
    refine ⟨fun u2 => ⟨inbn LN_5 (by omega), ?_⟩, fun u2 => ?_⟩
    · rw [if_neg (by omega)] at es
      rw [← es]
      exact main
    · rw [if_pos (by omega)] at es
      rw [← es]
      exact main
/-! what one bond pays on days, as the class lays it -/
theorem calledUp_no {R : F1} {step en : Nat} : ∀ m, (∀ j, 1 ≤ j → j ≤ m → ¬ (j % step = 0 ∧ j < en ∧ R j = 0)) → calledUp R step en m = en
  | 0, _ => rfl
  | m + 1, h => by
    unfold calledUp
    rw [if_neg (h (m + 1) (by omega) (Nat.le_refl _)), calledUp_no m (fun j a b => h j a (by omega))]
theorem calledUp_at {R : F1} {step en m : Nat} (h1 : 1 ≤ m) (h : ∀ j, 1 ≤ j → j < m → ¬ (j % step = 0 ∧ j < en ∧ R j = 0)) (h2 : m % step = 0 ∧ m < en ∧ R m = 0) : ∀ n, m ≤ n → calledUp R step en n = m := by
  intro n hn
  induction n with
  | zero => omega
  | succ n ih =>
    unfold calledUp
    by_cases q : m = n + 1
    · subst q
      rw [if_pos h2, calledUp_no n (fun j a b => h j a (by omega)), if_neg (Nat.lt_irrefl _)]
    · have := ih (by omega)
      rw [this]
      split
      · rw [if_pos h2.2.1]
      · rfl
theorem calledUp_le {R : F1} {step en : Nat} : ∀ n, calledUp R step en n ≤ en
  | 0 => Nat.le_refl _
  | n + 1 => by
    have := calledUp_le (R := R) (step := step) (en := en) n
    unfold calledUp
    split
    · split <;> omega
    · exact this
theorem payS_range {kind coupon pay : Int} {step en : Nat} {R : F1} (hk : 0 ≤ kind ∧ kind ≤ 5) (hc : 0 ≤ coupon ∧ coupon ≤ 9) (hs : 1 ≤ step) (he : 1 ≤ en ∧ en ≤ 60) (hp : 1 ≤ pay ∧ pay ≤ 60) {k : Nat} (h1 : 1 ≤ k) (hR : 0 ≤ R k ∧ R k ≤ 9) : 0 ≤ payS kind coupon step en pay R k ∧ payS kind coupon step en pay R k ≤ 300 := by
  have hj : ∀ j : Int, (0 ≤ j ∧ j ≤ 60) → (0 : Int) ≤ coupon * R k ∧ coupon * R k ≤ 81 := by
    intro j _
    refine ⟨Int.mul_nonneg hc.1 hR.1, ?_⟩
    have := Int.mul_le_mul hc.2 hR.2 hR.1 (by omega)
    omega
  have hcr := hj 0 (by omega)
  have hJ : (0 : Int) ≤ (((if k = en then (en - 1) / step else k / step - 1 : Nat)) : Int) ∧ (k ≤ en → (((if k = en then (en - 1) / step else k / step - 1 : Nat)) : Int) ≤ 60) := by
    refine ⟨Int.natCast_nonneg _, fun hke => ?_⟩
    have a1 := Nat.div_le_self (en - 1) step
    have a2 := Nat.div_le_self k step
    split <;> omega
  unfold payS
  generalize (((if k = en then (en - 1) / step else k / step - 1 : Nat)) : Int) = J at *
  dsimp only
  by_cases q : k > en ∨ (k ≠ en ∧ k % step ≠ 0)
  · rw [if_pos q]; omega
  · rw [if_neg q]
    have q1 : k ≤ en := by omega
    have hJ2 := hJ.2 q1
    have hJ1 := hJ.1
    by_cases qe : k = en
    · simp only [qe, if_true] at *
      split
      · omega
      split
      · omega
      split
      · omega
      split
      · split <;> omega
      split
      · omega
      split
      · omega
      split <;> omega
    · simp only [qe, if_false] at *
      split
      · omega
      split
      · omega
      split
      · omega
      split
      · split <;> omega
      split
      · omega
      split
      · omega
      split <;> omega
