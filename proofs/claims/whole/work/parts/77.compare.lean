/-! which fraction is the lesser -/
theorem lx_sign (a b : Int) : w64 (lx a b) < 0 ↔ ¬ (w64 a < 0 ↔ w64 b < 0) := by
  have sg : ∀ x : Int64, (x.toInt < 0 ↔ x.toBitVec.msb = true) := fun x => by
    rw [BitVec.msb_eq_toInt]
    exact (decide_eq_true_iff).symm
  have e1 : w64 (lx a b) = (i6 a ^^^ i6 b).toInt := by
    unfold lx
    rw [← i6_toInt, i6_of]
  have s : ∀ z : Int, (w64 z < 0 ↔ (i6 z).toBitVec.msb = true) := fun z => by rw [← sg, i6_toInt]
  rw [e1, sg, s a, s b, Int64.toBitVec_xor, BitVec.msb_xor]
  cases (i6 a).toBitVec.msb <;> cases (i6 b).toBitVec.msb <;> simp
theorem ediv_uni {a b k : Int} (hb : 0 < b) (h1 : k * b ≤ a) (h2 : a < k * b + b) : a / b = k := by
  have a1 := (Int.le_ediv_iff_mul_le (a := k) (b := a) hb).mpr h1
  have e : (k + 1) * b = k * b + b := by rw [Int.add_mul, Int.one_mul]
  have a2 := (Int.ediv_lt_iff_lt_mul (a := a) (b := k + 1) hb).mpr (by rw [e]; exact h2)
  omega
theorem ediv_in {a b : Int} (ha : inL a) (hb : 0 < b) : inL (a / b) := by
  obtain ⟨a1, a2⟩ := ha
  have h1 := (Int.le_ediv_iff_mul_le (a := -9223372036854775807) (b := a) hb).mpr (by omega)
  have h2 := (Int.ediv_lt_iff_lt_mul (a := a) (b := 9223372036854775808) hb).mpr (by omega)
  exact ⟨by omega, h2⟩
theorem floorDiv_ok {a b : Int} (hb : 0 < b) (ha : inL a) (hb2 : inL b) {M : Mem} {Q : Int → Prop} (h : Q (a / b)) : wp_J9_floorDiv_f86c9 a b M Q := by
  unfold wp_J9_floorDiv_f86c9
  have sg := lx_sign a b
  rw [w64_in ha, w64_in hb2] at sg
  rw [w64_in ha, w64_in hb2, vl_0]
  refine ⟨by omega, fun u => ?_, fun u => ?_⟩
  · rw [Int.tdiv_eq_ediv_of_nonneg (by omega)]
    exact h
  · have neg : a < 0 := by omega
    obtain ⟨q, hq⟩ : ∃ q, q = (-a) / b := ⟨_, rfl⟩
    have e : a.tdiv b = -q := by rw [hq, show a = -(-a) by omega, Int.neg_tdiv, Int.tdiv_eq_ediv_of_nonneg (by omega), Int.neg_neg]
    have m1 := (Int.le_ediv_iff_mul_le (a := q) (b := -a) hb).mp (by omega)
    have m2 := (Int.ediv_lt_iff_lt_mul (a := -a) (b := q + 1) hb).mp (by omega)
    have q0 : 0 ≤ q := by rw [hq]; exact Int.ediv_nonneg (by omega) (by omega)
    have p0 := Int.mul_nonneg q0 (show 0 ≤ b by omega)
    rw [Int.add_mul, Int.one_mul] at m2
    have en : -q * b = -(q * b) := Int.neg_mul ..
    obtain ⟨ha1, ha2⟩ := ha
    rw [e, en, w64_in (z := -(q * b)) ⟨by omega, by omega⟩]
    refine ⟨fun v => ?_, fun v => ?_⟩
    · rw [ediv_uni (k := -q) hb (by omega) (by omega)] at h
      exact h
    · have en2 : (-q - 1) * b = -(q * b) - b := by rw [Int.sub_mul, en, Int.one_mul]
      rw [ediv_uni (k := -q - 1) hb (by omega) (by omega)] at h
      exact h
/-- whole parts that differ tell which is the lesser -/
theorem whole_lt {a b c d : Int} (hb : 0 < b) (hd : 0 < d) (h : a / b < c / d) : a * d < c * b := by
  have a1 := (Int.ediv_lt_iff_lt_mul (a := a) (b := a / b + 1) hb).mp (by omega)
  have c1 := (Int.le_ediv_iff_mul_le (a := c / d) (b := c) hd).mp (Int.le_refl _)
  have x1 := Int.mul_lt_mul_of_pos_right a1 hd
  have x2 := Int.mul_le_mul_of_nonneg_right c1 (show 0 ≤ b by omega)
  have x3 := Int.mul_le_mul_of_nonneg_right (show a / b + 1 ≤ c / d by omega) (Int.mul_nonneg (show 0 ≤ d by omega) (show 0 ≤ b by omega))
  have e1 : (a / b + 1) * (d * b) = (a / b + 1) * b * d := by rw [Int.mul_comm d b, Int.mul_assoc]
  have e2 : c / d * (d * b) = c / d * d * b := by rw [Int.mul_assoc]
  omega
theorem rest_is (a b : Int) : a - a / b * b = a % b := by rw [Int.emod_def, Int.mul_comm]
theorem rests {a b c d : Int} (h : a / b = c / d) : (a % b) * d - (c % d) * b = a * d - c * b := by
  rw [Int.emod_def, Int.emod_def, h, Int.sub_mul, Int.sub_mul]
  have : b * (c / d) * d = d * (c / d) * b := by
    rw [Int.mul_comm b, Int.mul_comm d, Int.mul_assoc, Int.mul_assoc, Int.mul_comm b d]
  omega
theorem emod_in {a b : Int} (hb : 0 < b) (hb2 : inL b) : inL (a % b) ∧ 0 ≤ a % b ∧ a % b < b := by
  have h1 := Int.emod_nonneg a (show b ≠ 0 by omega)
  have h2 := Int.emod_lt_of_pos a hb
  have := hb2.2
  exact ⟨⟨by omega, by omega⟩, h1, h2⟩
theorem isLess_ok {a b c d : Int} (ha : inL a) (hb : inL b) (hc : inL c) (hd : inL d) (pb : 0 < b) (pd : 0 < d) {M : Mem} {Q : Bool → Prop} (h : Q (ltq (a, b) (c, d))) : wp_X12_isLess a b c d M Q := by
  have h : ∀ z : Bool, (z = true ↔ a * d - c * b < 0) → Q z := fun z hz => by
    have : z = ltq (a, b) (c, d) := by
      unfold ltq
      dsimp only
      rw [Bool.eq_iff_iff, hz, decide_eq_true_iff]
      omega
    rw [this]; exact h
  unfold wp_X12_isLess
  refine ⟨fun x8 x10 x12 x14 => x8 * x14 - x12 * x10 = a * d - c * b ∧ 0 < x10 ∧ 0 < x14 ∧ inL x8 ∧ inL x10 ∧ inL x12 ∧ inL x14, fun _ x10 _ x14 => (x10 + x14).toNat, ⟨rfl, pb, pd, ha, hb, hc, hd⟩, ?_⟩
  rintro x8 x10 x12 x14 ⟨f1, f2, f3, f4, f5, f6, f7⟩
  unfold wp_X12_isLess_B14
  refine floorDiv_ok f2 f4 f5 (floorDiv_ok f3 f6 f7 ?_)
  rw [rest_is, rest_is, w64_in (ediv_in f4 f2), w64_in (ediv_in f6 f3), vl_0]
  obtain ⟨g1, g2, g3⟩ := emod_in (a := x8) f2 f5
  obtain ⟨g4, g5, g6⟩ := emod_in (a := x12) f3 f7
  rw [w64_in g1, w64_in g4]
  refine ⟨fun u => ?_, fun u => ?_⟩
  · have rs := rests u
    refine ⟨fun v => ⟨fun w => ⟨⟨?_, by omega, by omega, f7, g4, f5, g1⟩, by dsimp only; omega⟩, fun w => ?_⟩, fun v => ?_⟩
    · rw [← f1, ← rs, Int.mul_comm x14, Int.mul_comm x10]
    · refine h true ⟨fun _ => ?_, fun _ => rfl⟩
      have w : x8 % x10 = 0 := by omega
      rw [w, Int.zero_mul] at rs
      have := Int.mul_pos (show 0 < x12 % x14 by omega) f2
      omega
    · refine h false ⟨fun z => (by cases z), fun z => ?_⟩
      have v : x12 % x14 = 0 := by omega
      rw [v, Int.zero_mul] at rs
      have := Int.mul_nonneg g2 (show 0 ≤ x14 by omega)
      omega
  · refine ⟨fun v => h false ⟨fun z => (by cases z), fun z => ?_⟩, fun v => h true ⟨fun _ => ?_, fun _ => rfl⟩⟩
    · have := whole_lt f3 f2 (show x12 / x14 < x8 / x10 by omega)
      omega
    · have := whole_lt f2 f3 (show x8 / x10 < x12 / x14 by omega)
      omega
theorem fcompare_ok {a c : Nat} {q r : Int × Int} {M : Mem} (ha : FR M a (some q)) (hc : FR M c (some r)) (hq : Fr q) (hr : Fr r) {Q : Int → Prop} (h : ∀ z : Int, ((z = -1 ∧ q.1 * r.2 - r.1 * q.2 < 0) ∨ (z = 0 ∧ q.1 * r.2 - r.1 * q.2 = 0) ∨ (z = 1 ∧ 0 < q.1 * r.2 - r.1 * q.2)) → Q z) : wp_X4_compare a c M Q := by
  obtain ⟨qi1, qi2, qp⟩ := Fr_in hq
  obtain ⟨ri1, ri2, rp⟩ := Fr_in hr
  unfold wp_X4_compare
  rw [ha.2.1, ha.2.2, hc.2.1, hc.2.2]
  obtain ⟨T, hT⟩ : ∃ T, T = q.1 * r.2 - r.1 * q.2 := ⟨_, rfl⟩
  rw [← hT] at h
  -- what is said at an end
  have fin : ∀ s S : Int, (s = 1 ∨ s = -1) → s * S = T → (S < 0 → Q (-s)) ∧ (S = 0 → Q 0) ∧ (0 < S → Q s) := by
    intro s S hs e
    rcases hs with rfl | rfl
    · rw [Int.one_mul] at e
      exact ⟨fun z => h _ (by omega), fun z => h _ (by omega), fun z => h _ (by omega)⟩
    · have : -1 * S = -S := by omega
      rw [this] at e
      exact ⟨fun z => h _ (by omega), fun z => h _ (by omega), fun z => h _ (by omega)⟩
  refine ⟨fun x2 x4 x6 x8 x10 x11 => (x10 = 1 ∨ x10 = -1) ∧ x10 * (x2 * x8 - x6 * x4) = T ∧ 0 ≤ x4 ∧ 0 ≤ x8 ∧ (x4 = 0 → 0 < x2) ∧ (x8 = 0 → 0 < x6) ∧ (inL x2 ∧ inL x4 ∧ inL x6 ∧ inL x8) ∧ 0 ≤ x11 ∧ x11 < 200 ∧ (x11 = 0 ∨ ∃ A B k : Nat, x4 = (A : Int) ∧ x2 = (B : Int) ∧ A ≤ B ∧ A * B < 2 ^ k ∧ x11 + (k : Int) = 199), fun _ _ _ _ _ x11 => ((200 : Int) - x11).toNat, ⟨Or.inl rfl, by rw [Int.one_mul, hT], by omega, by omega, fun z => by omega, fun z => by omega, ⟨qi1, qi2, ri1, ri2⟩, by omega, by omega, Or.inl rfl⟩, ?_⟩
  rintro x2 x4 x6 x8 x10 x11 ⟨f1, f2, f3, f4, f5, f6, ⟨i2, i4, i6, i8⟩, f7, f8, f9⟩
  obtain ⟨e1, e2, e3⟩ := fin x10 _ f1 f2
  have b138 : (x4 = 0 ∨ x8 = 0) → wp_X4_compare_b138 a c Q M x4 x8 x10 := by
    intro z
    unfold wp_X4_compare_b138
    rw [w64_in i4, w64_in i8, vl_0]
    refine ⟨fun u => ⟨fun v => ?_, fun v => ?_⟩, fun u => ?_⟩
    · refine e1 ?_
      have z8 : x8 = 0 := by omega
      have := Int.mul_pos (f6 z8) (show 0 < x4 by omega)
      rw [z8, Int.mul_zero]
      omega
    · refine e3 ?_
      have z4 : x4 = 0 := by omega
      have := Int.mul_pos (f5 z4) (show 0 < x8 by omega)
      rw [z4, Int.mul_zero]
      omega
    · refine e2 ?_
      have z4 : x4 = 0 := by omega
      have z8 : x8 = 0 := by omega
      rw [z4, z8, Int.mul_zero, Int.mul_zero]
      rfl
  unfold wp_X4_compare_B29
  rw [wl_200, w32_id (z := x11) (by omega) (by omega), w64_in i4, w64_in i8, vl_0]
  refine ⟨fun u => absurd u (by omega), fun _ => ⟨fun u => b138 (by omega), fun u => ⟨fun v => b138 (by omega), fun v => ?_⟩⟩⟩
  have p4 : 0 < x4 := by omega
  have p8 : 0 < x8 := by omega
  refine floorDiv_ok p4 i2 i4 (floorDiv_ok p8 i6 i8 ?_)
  rw [rest_is, rest_is, w64_in (ediv_in i2 p4), w64_in (ediv_in i6 p8)]
  obtain ⟨g1, g2, g3⟩ := emod_in (a := x2) p4 i4
  obtain ⟨g4, g5, g6⟩ := emod_in (a := x6) p8 i8
  refine ⟨fun w => ?_, fun w => ⟨fun y => e3 ?_, fun y => e1 ?_⟩⟩
  · have rs := rests w
    obtain ⟨A, hA⟩ : ∃ A : Nat, x4 = (A : Int) := ⟨x4.toNat, by omega⟩
    have fuel : ∃ A' B' k : Nat, x2 % x4 = (A' : Int) ∧ x4 = (B' : Int) ∧ A' ≤ B' ∧ A' * B' < 2 ^ k ∧ x11 + 1 + (k : Int) = 199 := by
      rcases f9 with z | ⟨A2, B, k, a1, a2, a3, a4, a5⟩
      · refine ⟨(x2 % x4).toNat, A, 198, by omega, hA, by omega, ?_, by omega⟩
        have l1 : (x2 % x4).toNat ≤ 9223372036854775808 := by have := g1.2; omega
        have l2 : A ≤ 9223372036854775808 := by have := i4.2; omega
        exact Nat.lt_of_le_of_lt (Nat.mul_le_mul l1 l2) (by decide)
      · have : A2 = A := by omega
        subst this
        obtain ⟨k', b1, b2, b3⟩ := gcd_fuel (show 0 < A2 by omega) a3 a4
        refine ⟨B % A2, A2, k', by rw [a1, a2]; exact (Int.natCast_emod B A2).symm, a1, by omega, b2, by omega⟩
    clear f9
    have sg : -x10 = 1 ∨ -x10 = -1 := by clear fuel; omega
    have st : x11 + 1 < 200 := by
      obtain ⟨_, _, k, -, -, -, -, z⟩ := fuel
      omega
    refine ⟨⟨sg, ?_, g2, g5, fun _ => p4, fun _ => p8, ⟨i4, g1, i8, g4⟩, (by clear fuel; omega), st, Or.inr fuel⟩, (by dsimp only; clear fuel; omega)⟩
    · rw [← f2, ← rs, Int.neg_mul, ← Int.mul_neg]
      congr 1
      rw [Int.mul_comm x4, Int.mul_comm x8]
      clear fuel
      omega
  · have := whole_lt p8 p4 (show x6 / x8 < x2 / x4 by omega)
    omega
  · have := whole_lt p4 p8 (show x2 / x4 < x6 / x8 by omega)
    omega
