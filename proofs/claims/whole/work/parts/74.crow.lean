/-! a row of the class's dictionary -/
def IsRw (a : Nat) : Prop := rt a 1 = a + 1 ∧ rt a 2 = a + 2 ∧ LN (a + 2) 5 ∧ ∀ j, j < 5 → rt (a + 2) j = a + 3 + j
theorem rw_t : ∀ p, p < 9 → rt (102 + 8 * p) 1 = 102 + 8 * p + 1 ∧ rt (102 + 8 * p) 2 = 102 + 8 * p + 2 ∧ ln (102 + 8 * p + 2) = 5 ∧ ∀ j, j < 5 → rt (102 + 8 * p + 2) j = 102 + 8 * p + 3 + j := by decide +kernel
theorem rw_88 : rt 88 1 = 89 ∧ rt 88 2 = 90 ∧ ln 90 = 5 ∧ ∀ j, j < 5 → rt 90 j = 91 + j := by decide +kernel
theorem IsRw_p {p : Nat} (h : p < 9) : IsRw (102 + 8 * p) := by
  obtain ⟨a, b, c, d⟩ := rw_t p h
  exact ⟨a, b, ⟨c, by decide⟩, d⟩
theorem IsRw_88 : IsRw 88 := ⟨rw_88.1, rw_88.2.1, ⟨rw_88.2.2.1, by decide⟩, rw_88.2.2.2⟩
theorem rt_96 : ∀ p, p < 9 → rt 96 p = 102 + 8 * p := by decide +kernel
def RQ (M : Mem) (a : Nat) (b : Q2) (s : Nat → Q2) : Prop := FR M (a + 1) b ∧ ∀ j, j < 5 → FR M (a + 3 + j) (s j)
theorem RQ_same {M M' : Mem} {a : Nat} {b : Q2} {s : Nat → Q2} (h : RQ M a b s) (e : ∀ k j, a + 1 ≤ k → k < a + 8 → M' k j = M k j) : RQ M' a b s :=
  ⟨FR_same h.1 (fun j => e _ j (by omega) (by omega)), fun j hj => FR_same (h.2 j hj) (fun c => e _ c (by omega) (by omega))⟩
/-- off a row's fractions -/
def FrRw (a : Nat) (M M' : Mem) : Prop := ∀ k j, ¬ (a + 1 ≤ k ∧ k < a + 8) → M' k j = M k j
theorem FrRw_trans {a : Nat} {M M2 M3 : Mem} (h : FrRw a M M2) (h2 : FrRw a M2 M3) : FrRw a M M3 := fun k j q => (h2 k j q).trans (h k j q)
theorem rowLoop {a k : Nat} (hk : k < 5) : w32 (k : Int) = (k : Int) ∧ ix (k : Int) = k := ⟨w32n (by omega), ixn (by omega)⟩
theorem inL_1 : inL 1 := ⟨by decide, by decide⟩
theorem X7_begin_ok {a : Nat} (ha : IsRw a) {z : Int} {M : Mem} {Q : Mem → Prop} (h : ∀ M' : Mem, M' a 0 = z → RQ M' a (some (0, 1)) (fun _ => some (0, 1)) → (∀ k j, ¬ (a ≤ k ∧ k < a + 8) → M' k j = M k j) → Q M') : wp_X7_begin a z M Q := by
  obtain ⟨r1, r2, r3, r4⟩ := ha
  unfold wp_X7_begin
  rintro M2 rfl
  rw [r1]
  refine become_int_ok inL_0 (fun M3 p1 p2 => ?_)
  refine ⟨fun M' x2 => ∃ k : Nat, x2 = (k : Int) ∧ k ≤ 5 ∧ M' a 0 = z ∧ FR M' (a + 1) (some (0, 1)) ∧ (∀ j, j < k → FR M' (a + 3 + j) (some (0, 1))) ∧ ∀ k j, ¬ (a ≤ k ∧ k < a + 8) → M' k j = M k j, fun _ x2 => ((5 : Int) - x2).toNat, ⟨0, rfl, by omega, ?_, p1, fun _ q => absurd q (Nat.not_lt_zero _), fun k j q => ?_⟩, ?_⟩
  · rw [p2 _ _ (by omega), st2_s]
  · rw [p2 _ _ (by omega), st2_n _ _ (by omega)]
  rintro M4 x2 ⟨k, rfl, hk, f1, f2, f3, f4⟩
  unfold wp_X7_begin_B16
  dsimp only
  rw [wl_5, w32n (show k < 2147483648 by omega), ixn (show k < 2147483648 by omega), r2]
  refine ⟨fun u => ?_, fun u => ⟨inbn r3 (by omega), ?_⟩⟩
  · have : k = 5 := by omega
    subst this
    exact h M4 f1 ⟨f2, f3⟩ f4
  · rw [r4 k (by omega)]
    refine become_int_ok inL_0 (fun M5 q1 q2 => ⟨⟨k + 1, rfl, by omega, ?_, ?_, fun j hj => ?_, fun c j q => ?_⟩, by omega⟩)
    · rw [q2 _ _ (by omega)]; exact f1
    · exact FR_same f2 (fun j => q2 _ j (by omega))
    · by_cases y : j = k
      · subst y; exact q1
      · exact FR_same (f3 j (by omega)) (fun c => q2 _ c (by omega))
    · rw [q2 _ _ (by omega)]; exact f4 c j q
theorem X7_become_ok {a c : Nat} (ha : IsRw a) (hc : IsRw c) (hac : a + 8 ≤ c ∨ c + 8 ≤ a) {b : Q2} {s : Nat → Q2} {M : Mem} (hr : RQ M c b s) {Q : Mem → Prop} (h : ∀ M' : Mem, RQ M' a b s → FrRw a M M' → Q M') : wp_X7_become a c M Q := by
  obtain ⟨r1, r2, r3, r4⟩ := ha
  obtain ⟨s1, s2, s3, s4⟩ := hc
  unfold wp_X7_become
  rw [r1, s1]
  refine becomeF_ok (by omega) hr.1 (fun M3 p1 p2 => ?_)
  refine ⟨fun M' x2 => ∃ k : Nat, x2 = (k : Int) ∧ k ≤ 5 ∧ FR M' (a + 1) b ∧ (∀ j, j < k → FR M' (a + 3 + j) (s j)) ∧ FrRw a M M', fun _ x2 => ((5 : Int) - x2).toNat, ⟨0, rfl, by omega, p1, fun _ q => absurd q (Nat.not_lt_zero _), fun k j q => p2 k j (by omega)⟩, ?_⟩
  rintro M4 x2 ⟨k, rfl, hk, f2, f3, f4⟩
  unfold wp_X7_become_B13
  dsimp only
  rw [wl_5, w32n (show k < 2147483648 by omega), ixn (show k < 2147483648 by omega), r2, s2]
  refine ⟨fun u => ?_, fun u => ⟨inbn r3 (by omega), inbn s3 (by omega), ?_⟩⟩
  · have : k = 5 := by omega
    subst this
    exact h M4 ⟨f2, f3⟩ f4
  · rw [r4 k (by omega), s4 k (by omega)]
    refine becomeF_ok (by omega) (FR_same (hr.2 k (by omega)) (fun j => f4 _ j (by omega))) (fun M5 q1 q2 => ⟨⟨k + 1, rfl, by omega, ?_, fun j hj => ?_, fun c j q => ?_⟩, by omega⟩)
    · exact FR_same f2 (fun j => q2 _ j (by omega))
    · by_cases y : j = k
      · subst y; exact q1
      · exact FR_same (f3 j (by omega)) (fun c => q2 _ c (by omega))
    · rw [q2 _ _ (by omega)]; exact f4 c j q
theorem X7_multiply_ok {a c : Nat} (ha : IsRw a) (hac : c < a + 1 ∨ a + 8 ≤ c) {b f : Q2} {s : Nat → Q2} {M : Mem} (hr : RQ M a b s) (hf : FR M c f) (bF : FrO b) (sF : ∀ j, j < 5 → FrO (s j)) (fF : FrO f) {Q : Mem → Prop} (h : ∀ M' : Mem, RQ M' a (ob mulq b f) (fun j => ob mulq (s j) f) → FrRw a M M' → Q M') : wp_X7_multiply a c M Q := by
  obtain ⟨r1, r2, r3, r4⟩ := ha
  unfold wp_X7_multiply
  rw [r1]
  refine multiply_ok bF fF hr.1 hf (fun M3 p1 p2 => ?_)
  refine ⟨fun M' x2 => ∃ k : Nat, x2 = (k : Int) ∧ k ≤ 5 ∧ FR M' (a + 1) (ob mulq b f) ∧ (∀ j, j < k → FR M' (a + 3 + j) (ob mulq (s j) f)) ∧ (∀ j, k ≤ j → j < 5 → FR M' (a + 3 + j) (s j)) ∧ FrRw a M M', fun _ x2 => ((5 : Int) - x2).toNat, ⟨0, rfl, by omega, p1, fun _ q => absurd q (Nat.not_lt_zero _), fun j _ hj => FR_same (hr.2 j hj) (fun c => p2 _ c (by omega)), fun k j q => p2 k j (by omega)⟩, ?_⟩
  rintro M4 x2 ⟨k, rfl, hk, f2, f3, f5, f4⟩
  unfold wp_X7_multiply_B10
  dsimp only
  rw [wl_5, w32n (show k < 2147483648 by omega), ixn (show k < 2147483648 by omega), r2]
  refine ⟨fun u => ?_, fun u => ⟨inbn r3 (by omega), ?_⟩⟩
  · have : k = 5 := by omega
    subst this
    exact h M4 ⟨f2, f3⟩ f4
  · rw [r4 k (by omega)]
    refine multiply_ok (sF k (by omega)) fF (f5 k (Nat.le_refl _) (by omega)) (FR_same hf (fun j => f4 _ j (by omega))) (fun M5 q1 q2 => ⟨⟨k + 1, rfl, by omega, ?_, fun j hj => ?_, fun j j1 j2 => ?_, fun c j q => ?_⟩, by omega⟩)
    · exact FR_same f2 (fun j => q2 _ j (by omega))
    · by_cases y : j = k
      · subst y; exact q1
      · exact FR_same (f3 j (by omega)) (fun c => q2 _ c (by omega))
    · exact FR_same (f5 j (by omega) j2) (fun c => q2 _ c (by omega))
    · rw [q2 _ _ (by omega)]; exact f4 c j q
theorem X7_negate_ok {a : Nat} (ha : IsRw a) {b : Q2} {s : Nat → Q2} {M : Mem} (hr : RQ M a b s) {Q : Mem → Prop} (h : ∀ M' : Mem, RQ M' a (b.map negq) (fun j => (s j).map negq) → FrRw a M M' → Q M') : wp_X7_negate a M Q := by
  obtain ⟨r1, r2, r3, r4⟩ := ha
  unfold wp_X7_negate
  rw [r1]
  refine negate_ok hr.1 (fun M3 p1 p2 => ?_)
  refine ⟨fun M' x2 => ∃ k : Nat, x2 = (k : Int) ∧ k ≤ 5 ∧ FR M' (a + 1) (b.map negq) ∧ (∀ j, j < k → FR M' (a + 3 + j) ((s j).map negq)) ∧ (∀ j, k ≤ j → j < 5 → FR M' (a + 3 + j) (s j)) ∧ FrRw a M M', fun _ x2 => ((5 : Int) - x2).toNat, ⟨0, rfl, by omega, p1, fun _ q => absurd q (Nat.not_lt_zero _), fun j _ hj => FR_same (hr.2 j hj) (fun c => p2 _ c (by omega)), fun k j q => p2 k j (by omega)⟩, ?_⟩
  rintro M4 x2 ⟨k, rfl, hk, f2, f3, f5, f4⟩
  unfold wp_X7_negate_B9
  dsimp only
  rw [wl_5, w32n (show k < 2147483648 by omega), ixn (show k < 2147483648 by omega), r2]
  refine ⟨fun u => ?_, fun u => ⟨inbn r3 (by omega), ?_⟩⟩
  · have : k = 5 := by omega
    subst this
    exact h M4 ⟨f2, f3⟩ f4
  · rw [r4 k (by omega)]
    refine negate_ok (f5 k (Nat.le_refl _) (by omega)) (fun M5 q1 q2 => ⟨⟨k + 1, rfl, by omega, ?_, fun j hj => ?_, fun j j1 j2 => ?_, fun c j q => ?_⟩, by omega⟩)
    · exact FR_same f2 (fun j => q2 _ j (by omega))
    · by_cases y : j = k
      · subst y; exact q1
      · exact FR_same (f3 j (by omega)) (fun c => q2 _ c (by omega))
    · exact FR_same (f5 j (by omega) j2) (fun c => q2 _ c (by omega))
    · rw [q2 _ _ (by omega)]; exact f4 c j q
def greatUp (s : Nat → Q2) (b : Bool) : Nat → Bool
  | 0 => b
  | k + 1 => greatUp s b k || (s k).isNone
theorem greatUp_iff {s : Nat → Q2} {b : Bool} : ∀ m, greatUp s b m = true ↔ (b = true ∨ ∃ j, j < m ∧ s j = none)
  | 0 => by simp [greatUp]
  | m + 1 => by
    unfold greatUp
    rw [Bool.or_eq_true, greatUp_iff m, Option.isNone_iff_eq_none]
    constructor
    · rintro ((h | ⟨j, h1, h2⟩) | h)
      · exact Or.inl h
      · exact Or.inr ⟨j, by omega, h2⟩
      · exact Or.inr ⟨m, by omega, h⟩
    · rintro (h | ⟨j, h1, h2⟩)
      · exact Or.inl (Or.inl h)
      · rcases Nat.lt_or_ge j m with q | q
        · exact Or.inl (Or.inr ⟨j, q, h2⟩)
        · have : j = m := by omega
          subst this
          exact Or.inr h2
def rowGreat (b : Q2) (s : Nat → Q2) : Bool := greatUp s b.isNone 5
theorem X7_isGreat_ok {a : Nat} (ha : IsRw a) {b : Q2} {s : Nat → Q2} {M : Mem} (hr : RQ M a b s) {Q : Bool → Prop} (h : Q (rowGreat b s)) : wp_X7_isGreat a M Q := by
  obtain ⟨r1, r2, r3, r4⟩ := ha
  unfold wp_X7_isGreat
  rw [r1, FR_flag hr.1]
  refine ⟨fun x1 x2 => ∃ k : Nat, x2 = (k : Int) ∧ k ≤ 5 ∧ x1 = greatUp s b.isNone k, fun _ x2 => ((5 : Int) - x2).toNat, ⟨0, rfl, by omega, rfl⟩, ?_⟩
  rintro x1 x2 ⟨k, rfl, hk, rfl⟩
  unfold wp_X7_isGreat_B10 wp_X7_isGreat_b31 wp_X7_isGreat_b36
  dsimp only
  rw [wl_5, w32n (show k < 2147483648 by omega), ixn (show k < 2147483648 by omega), r2]
  refine ⟨fun u => ?_, fun u => ?_⟩
  · have : k = 5 := by omega
    subst this
    exact h
  · have e : greatUp s b.isNone (k + 1) = (greatUp s b.isNone k || (s k).isNone) := rfl
    refine ⟨fun v => ⟨⟨k + 1, rfl, by omega, by rw [e, v]; rfl⟩, by omega⟩, fun v => ⟨inbn r3 (by omega), ?_⟩⟩
    rw [r4 k (by omega), FR_flag (hr.2 k (by omega))]
    exact ⟨fun w => ⟨⟨k + 1, rfl, by omega, by rw [e, v, w]; rfl⟩, by omega⟩, fun w => ⟨⟨k + 1, rfl, by omega, by rw [e, v, w]; rfl⟩, by omega⟩⟩
