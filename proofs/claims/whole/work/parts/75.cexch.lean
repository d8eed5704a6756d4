/-! the class's exchange -/
def FrX (a : Nat) (M M' : Mem) : Prop := ∀ k j, ¬ (a + 1 ≤ k ∧ k < a + 8) → k ≠ 98 → k ≠ 99 → M' k j = M k j
theorem rt_87 : rt 87 0 = 88 ∧ rt 87 1 = 96 ∧ rt 87 3 = 97 ∧ rt 87 5 = 98 ∧ rt 87 6 = 99 ∧ rt 87 7 = 100 ∧ rt 87 8 = 101 := by decide +kernel
theorem replaceIn_ok {a c n e : Nat} (ha : IsRw a) (hc : IsRw c) (pa : a = 88 ∨ 102 ≤ a) (pc : c = 88 ∨ 102 ≤ c) (hac : a + 8 ≤ c ∨ c + 8 ≤ a) (hn : n ≤ 5) (he : e < n) {b pb : Q2} {s ps : Nat → Q2} {M : Mem} (h4 : M 87 4 = (n : Int)) (hr : RQ M a b s) (hp : RQ M c pb ps) (bF : FrO b) (sF : ∀ j, j < n → FrO (s j)) (pbF : FrO pb) (psF : ∀ j, j < n → FrO (ps j)) {Q : Mem → Prop} (h : ∀ M' : Mem, RQ M' a (ob addq b (ob mulq pb (s e))) (fun j => if n ≤ j then s j else if j = e then ob mulq (s e) (ps e) else ob addq (s j) (ob mulq (ps j) (s e))) → FrX a M M' → Q M') : wp_X3_replaceIn 87 a c (e : Int) M Q := by
  obtain ⟨r1, r2, r3, r4⟩ := ha
  obtain ⟨s1, s2, s3, s4⟩ := hc
  unfold wp_X3_replaceIn
  rw [r2, r1, s1, ixn (show e < 2147483648 by omega), r4 e (by omega), rt_87.2.2.2.1, rt_87.2.2.2.2.1]
  refine ⟨inbn r3 (by omega), ?_⟩
  have eF := sF e he
  refine becomeF_ok (by omega) (hr.2 e (by omega)) (fun M1 a1 a2 => ?_)
  refine becomeF_ok (by omega) (FR_same hp.1 (fun j => a2 _ j (by omega))) (fun M2 b1 b2 => ?_)
  refine multiply_ok pbF eF b1 (FR_same a1 (fun j => b2 _ j (by omega))) (fun M3 c1 c2 => ?_)
  refine add_ok bF (ob_mul_Fr pbF eF) (FR_same hr.1 (fun j => by rw [c2 _ j (by omega), b2 _ j (by omega), a2 _ j (by omega)])) c1 (fun M4 d1 d2 => ?_)
  have fr4 : FrX a M M4 := fun k j q1 q2 q3 => by rw [d2 _ j (by omega), c2 _ j (by omega), b2 _ j (by omega), a2 _ j (by omega)]
  have f98 : FR M4 98 (s e) := FR_same a1 (fun j => by rw [d2 _ j (by omega), c2 _ j (by omega), b2 _ j (by omega)])
  have olds : ∀ j, j < 5 → FR M4 (a + 3 + j) (s j) := fun j hj => FR_same (hr.2 j hj) (fun c => by rw [d2 _ c (by omega), c2 _ c (by omega), b2 _ c (by omega), a2 _ c (by omega)])
  refine ⟨fun M' x4 => ∃ k : Nat, x4 = (k : Int) ∧ k ≤ n ∧ FR M' 98 (s e) ∧ FR M' (a + 1) (ob addq b (ob mulq pb (s e))) ∧ (∀ j, j < k → FR M' (a + 3 + j) (if j = e then ob mulq (s e) (ps e) else ob addq (s j) (ob mulq (ps j) (s e)))) ∧ (∀ j, k ≤ j → j < 5 → FR M' (a + 3 + j) (s j)) ∧ FrX a M M', fun _ x4 => ((n : Int) - x4).toNat, ⟨0, rfl, Nat.zero_le _, f98, d1, fun _ q => absurd q (Nat.not_lt_zero _), fun j _ hj => olds j hj, fr4⟩, ?_⟩
  rintro M5 x4 ⟨k, rfl, hk, g98, g1, g2, g3, g4⟩
  unfold wp_X3_replaceIn_B49 wp_X3_replaceIn_b123
  dsimp only
  rw [g4 87 4 (by omega) (by decide) (by decide), h4, w32n (show k < 2147483648 by omega), w32n (show n < 2147483648 by omega), w32n (show e < 2147483648 by omega), ixn (show k < 2147483648 by omega), r2, s2]
  refine ⟨fun u => ?_, fun u => ⟨fun v => ⟨inbn s3 (by omega), ?_⟩, fun v => ⟨inbn r3 (by omega), inbn s3 (by omega), ?_⟩⟩⟩
  · have : k = n := by omega
    subst this
    refine h M5 ⟨g1, fun j hj => ?_⟩ g4
    dsimp only
    by_cases y : k ≤ j
    · rw [if_pos y]; exact g3 j y hj
    · rw [if_neg y]; exact g2 j (by omega)
  · have kF := sF k (by omega)
    have pF := psF k (by omega)
    rw [s4 k (by omega), rt_87.2.2.2.1, rt_87.2.2.2.2.1]
    have pk : FR M5 (c + 3 + k) (ps k) := FR_same (hp.2 k (by omega)) (fun j => g4 _ j (by omega) (by omega) (by omega))
    refine becomeF_ok (by omega) pk (fun M6 a1 a2 => ?_)
    refine multiply_ok pF eF a1 (FR_same g98 (fun j => a2 _ j (by omega))) (fun M7 b1 b2 => ⟨inbn r3 (by omega), ?_⟩)
    rw [r4 k (by omega)]
    refine add_ok kF (ob_mul_Fr pF eF) (FR_same (g3 k (Nat.le_refl _) (by omega)) (fun j => by rw [b2 _ j (by omega), a2 _ j (by omega)])) b1 (fun M8 c1 c2 => ?_)
    refine ⟨⟨k + 1, rfl, by omega, ?_, ?_, fun j hj => ?_, fun j j1 j2 => ?_, fun k2 j q1 q2 q3 => ?_⟩, by omega⟩
    · exact FR_same g98 (fun j => by rw [c2 _ j (by omega), b2 _ j (by omega), a2 _ j (by omega)])
    · exact FR_same g1 (fun j => by rw [c2 _ j (by omega), b2 _ j (by omega), a2 _ j (by omega)])
    · by_cases y : j = k
      · subst y
        rw [if_neg (by omega)]
        exact c1
      · exact FR_same (g2 j (by omega)) (fun i => by rw [c2 _ i (by omega), b2 _ i (by omega), a2 _ i (by omega)])
    · exact FR_same (g3 j (by omega) j2) (fun i => by rw [c2 _ i (by omega), b2 _ i (by omega), a2 _ i (by omega)])
    · rw [c2 _ j (by omega), b2 _ j (by omega), a2 _ j (by omega)]
      exact g4 k2 j q1 q2 q3
  · have ke : k = e := by omega
    subst ke
    rw [r4 k (by omega), s4 k (by omega)]
    have pk : FR M5 (c + 3 + k) (ps k) := FR_same (hp.2 k (by omega)) (fun j => g4 _ j (by omega) (by omega) (by omega))
    refine multiply_ok eF (psF k (by omega)) (g3 k (Nat.le_refl _) (by omega)) pk (fun M8 c1 c2 => ?_)
    refine ⟨⟨k + 1, rfl, by omega, ?_, ?_, fun j hj => ?_, fun j j1 j2 => ?_, fun k2 j q1 q2 q3 => ?_⟩, by omega⟩
    · exact FR_same g98 (fun j => c2 _ j (by omega))
    · exact FR_same g1 (fun j => c2 _ j (by omega))
    · by_cases y : j = k
      · subst y
        rw [if_pos rfl]
        exact c1
      · exact FR_same (g2 j (by omega)) (fun i => c2 _ i (by omega))
    · exact FR_same (g3 j (by omega) j2) (fun i => c2 _ i (by omega))
    · rw [c2 _ j (by omega)]
      exact g4 k2 j q1 q2 q3
theorem solveFor_ok {a n e : Nat} (ha : IsRw a) (pa : 102 ≤ a) (hn : n ≤ 5) (he : e < n) {b : Q2} {s : Nat → Q2} {M : Mem} (h4 : M 87 4 = (n : Int)) (hr : RQ M a b s) (bF : FrO b) (sF : ∀ j, j < n → FrO (s j)) (hnz : ∀ y, s e = some y → y.1 ≠ 0) {Q : Mem → Prop} (h : ∀ M' : Mem, RQ M' a ((ob divq b (s e)).map negq) (fun j => if n ≤ j then s j else if j = e then ob divq (some (1, 1)) (s e) else (ob divq (s j) (s e)).map negq) → FrX a M M' → Q M') : wp_X3_solveFor 87 a (e : Int) M Q := by
  obtain ⟨r1, r2, r3, r4⟩ := ha
  unfold wp_X3_solveFor
  rw [r2, r1, ixn (show e < 2147483648 by omega), r4 e (by omega), rt_87.2.2.2.1]
  refine ⟨inbn r3 (by omega), ?_⟩
  have eF := sF e he
  refine becomeF_ok (by omega) (hr.2 e (by omega)) (fun M1 a1 a2 => ?_)
  refine divide_ok (by omega) bF eF hnz (FR_same hr.1 (fun j => a2 _ j (by omega))) a1 (fun M2 b1 b2 => ?_)
  refine negate_ok b1 (fun M3 c1 c2 => ?_)
  have fr4 : FrX a M M3 := fun k j q1 q2 q3 => by rw [c2 _ j (by omega), b2 _ j (by omega), a2 _ j (by omega)]
  refine ⟨fun M' x4 => ∃ k : Nat, x4 = (k : Int) ∧ k ≤ n ∧ FR M' 98 (s e) ∧ FR M' (a + 1) ((ob divq b (s e)).map negq) ∧ (∀ j, j < k → FR M' (a + 3 + j) (if j = e then ob divq (some (1, 1)) (s e) else (ob divq (s j) (s e)).map negq)) ∧ (∀ j, k ≤ j → j < 5 → FR M' (a + 3 + j) (s j)) ∧ FrX a M M', fun _ x4 => ((n : Int) - x4).toNat, ⟨0, rfl, Nat.zero_le _, FR_same a1 (fun j => by rw [c2 _ j (by omega), b2 _ j (by omega)]), c1, fun _ q => absurd q (Nat.not_lt_zero _), fun j _ hj => FR_same (hr.2 j hj) (fun i => by rw [c2 _ i (by omega), b2 _ i (by omega), a2 _ i (by omega)]), fr4⟩, ?_⟩
  rintro M5 x4 ⟨k, rfl, hk, g98, g1, g2, g3, g4⟩
  unfold wp_X3_solveFor_B33 wp_X3_solveFor_b95
  dsimp only
  rw [g4 87 4 (by omega) (by decide) (by decide), h4, w32n (show k < 2147483648 by omega), w32n (show n < 2147483648 by omega), w32n (show e < 2147483648 by omega), ixn (show k < 2147483648 by omega), r2, rt_87.2.2.2.1]
  refine ⟨fun u => ?_, fun u => ⟨fun v => ⟨inbn r3 (by omega), ?_⟩, fun v => ⟨inbn r3 (by omega), ?_⟩⟩⟩
  · have : k = n := by omega
    subst this
    refine h M5 ⟨g1, fun j hj => ?_⟩ g4
    dsimp only
    by_cases y : k ≤ j
    · rw [if_pos y]; exact g3 j y hj
    · rw [if_neg y]; exact g2 j (by omega)
  · rw [r4 k (by omega)]
    refine divide_ok (by omega) (sF k (by omega)) eF hnz (g3 k (Nat.le_refl _) (by omega)) g98 (fun M6 a1 a2 => ⟨inbn r3 (by omega), ?_⟩)
    refine negate_ok a1 (fun M8 c1 c2 => ?_)
    refine ⟨⟨k + 1, rfl, by omega, ?_, ?_, fun j hj => ?_, fun j j1 j2 => ?_, fun k2 j q1 q2 q3 => ?_⟩, by omega⟩
    · exact FR_same g98 (fun j => by rw [c2 _ j (by omega), a2 _ j (by omega)])
    · exact FR_same g1 (fun j => by rw [c2 _ j (by omega), a2 _ j (by omega)])
    · by_cases y : j = k
      · subst y
        rw [if_neg (by omega)]
        exact c1
      · exact FR_same (g2 j (by omega)) (fun i => by rw [c2 _ i (by omega), a2 _ i (by omega)])
    · exact FR_same (g3 j (by omega) j2) (fun i => by rw [c2 _ i (by omega), a2 _ i (by omega)])
    · rw [c2 _ j (by omega), a2 _ j (by omega)]
      exact g4 k2 j q1 q2 q3
  · have ke : k = e := by omega
    subst ke
    rw [r4 k (by omega)]
    refine become_int_ok inL_1 (fun M6 a1 a2 => ⟨inbn r3 (by omega), ?_⟩)
    refine divide_ok (by omega) unit_Fr eF hnz a1 (FR_same g98 (fun j => a2 _ j (by omega))) (fun M8 c1 c2 => ?_)
    refine ⟨⟨k + 1, rfl, by omega, ?_, ?_, fun j hj => ?_, fun j j1 j2 => ?_, fun k2 j q1 q2 q3 => ?_⟩, by omega⟩
    · exact FR_same g98 (fun j => by rw [c2 _ j (by omega), a2 _ j (by omega)])
    · exact FR_same g1 (fun j => by rw [c2 _ j (by omega), a2 _ j (by omega)])
    · by_cases y : j = k
      · subst y
        rw [if_pos rfl]
        exact c1
      · exact FR_same (g2 j (by omega)) (fun i => by rw [c2 _ i (by omega), a2 _ i (by omega)])
    · exact FR_same (g3 j (by omega) j2) (fun i => by rw [c2 _ i (by omega), a2 _ i (by omega)])
    · rw [c2 _ j (by omega), a2 _ j (by omega)]
      exact g4 k2 j q1 q2 q3
