/-! worths, lengths, spreads: what they come to -/
def fac (r : Int) : Q2 := redq (4 + r) 4
theorem fac_ok {r : Int} (h : 0 ≤ r ∧ r ≤ 9) : FrO (fac r) ∧ ∃ x, fac r = some x ∧ Fr x ∧ 0 < x.1 := by
  have hF : FrO (fac r) := redq_Fr (by decide)
  have e := redq_some (n := 4 + r) (d := 4) (decide_eq_true (by omega)) (by decide)
  refine ⟨hF, _, e, hF _ e, ?_⟩
  have g := gcI_pos (n := 4 + r) (d := 4) (by decide)
  dsimp only
  rw [Int.tdiv_eq_ediv_of_nonneg (by omega)]
  have l := Int.le_of_dvd (by omega) (gcI_dvd (4 + r) 4).1
  have := (Int.le_ediv_iff_mul_le (a := 1) (b := 4 + r) g).mpr (by omega)
  omega
def wAtS (rr : F1) (am : Int) : Nat → Q2
  | 0 => some (am, 1)
  | k + 1 => ob divq (wAtS rr am k) (fac (rr k))
def whS (rr am : F1) : Nat → Q2
  | 0 => some (0, 1)
  | i + 1 => ob addq (whS rr am i) (wAtS rr (am i) (i + 1))
def ltS (rr am : F1) : Nat → Q2
  | 0 => some (0, 1)
  | i + 1 => ob addq (ltS rr am i) (ob mulq (some ((i : Int) + 1, 1)) (wAtS rr (am i) (i + 1)))
def distS (mid : Q2) (i : Nat) : Q2 := ob addq (some ((i : Int) + 1, 1)) (mid.map negq)
def spS (rr am : F1) (mid : Q2) : Nat → Q2
  | 0 => some (0, 1)
  | i + 1 => ob addq (spS rr am mid i) (ob mulq (ob mulq (distS mid i) (distS mid i)) (wAtS rr (am i) (i + 1)))
theorem ob_div_Fr {p q : Q2} (hp : FrO p) (hnz : ∀ y, q = some y → y.1 ≠ 0) : FrO (ob divq p q) := by
  cases p with
  | none => exact FrO_none
  | some x =>
    cases q with
    | none => exact FrO_none
    | some y => exact divq_Fr (hp x rfl).1 (hnz y rfl)
def RR (rr : F1) (N : Nat) : Prop := ∀ i, i < N → 0 ≤ rr i ∧ rr i ≤ 9
theorem fac_nz {r : Int} (h : 0 ≤ r ∧ r ≤ 9) : ∀ y, fac r = some y → y.1 ≠ 0 := by
  obtain ⟨-, x, e, -, hx⟩ := fac_ok h
  intro y hy
  rw [e] at hy
  cases hy
  omega
theorem wAtS_Fr {rr : F1} {N : Nat} (h : RR rr N) {am : Int} (ha : inL am) : ∀ k, k ≤ N → FrO (wAtS rr am k)
  | 0, _ => FrO_some (Fr_int ha)
  | k + 1, hk => ob_div_Fr (wAtS_Fr h ha k (by omega)) (fac_nz (h k (by omega)))
theorem inL_0 : inL 0 := ⟨by decide, by decide⟩
theorem whS_Fr {rr am : F1} {N : Nat} (h : RR rr N) (ha : ∀ i, i < N → inL (am i)) : ∀ i, i ≤ N → FrO (whS rr am i)
  | 0, _ => FrO_some (Fr_int inL_0)
  | i + 1, hi => ob_add_Fr (whS_Fr h ha i (by omega)) (wAtS_Fr h (ha i (by omega)) (i + 1) hi)
theorem one_Fr {N i : Nat} (h : i < N) (hN : N ≤ 5) : Fr ((i : Int) + 1, 1) := Fr_int ⟨by omega, by omega⟩
theorem ltS_Fr {rr am : F1} {N : Nat} (hN : N ≤ 5) (h : RR rr N) (ha : ∀ i, i < N → inL (am i)) : ∀ i, i ≤ N → FrO (ltS rr am i)
  | 0, _ => FrO_some (Fr_int inL_0)
  | i + 1, hi => ob_add_Fr (ltS_Fr hN h ha i (by omega)) (ob_mul_Fr (FrO_some (one_Fr (N := N) (by omega) hN)) (wAtS_Fr h (ha i (by omega)) (i + 1) hi))
theorem distS_Fr {mid : Q2} (hm : FrO mid) {i N : Nat} (h : i < N) (hN : N ≤ 5) : FrO (distS mid i) := ob_add_Fr (FrO_some (one_Fr h hN)) (map_neg_Fr hm)
theorem spS_Fr {rr am : F1} {N : Nat} {mid : Q2} (hm : FrO mid) (hN : N ≤ 5) (h : RR rr N) (ha : ∀ i, i < N → inL (am i)) : ∀ i, i ≤ N → FrO (spS rr am mid i)
  | 0, _ => FrO_some (Fr_int inL_0)
  | i + 1, hi => ob_add_Fr (spS_Fr hm hN h ha i (by omega)) (ob_mul_Fr (ob_mul_Fr (distS_Fr hm (N := N) (by omega) hN) (distS_Fr hm (N := N) (by omega) hN)) (wAtS_Fr h (ha i (by omega)) (i + 1) hi))
/-! the class reckons -/
theorem rt73 : rt 73 0 = 74 ∧ rt 73 1 = 75 ∧ rt 73 2 = 76 ∧ rt 73 3 = 77 ∧ rt 73 4 = 78 ∧ rt 73 5 = 79 ∧ rt 73 6 = 80 := by decide +kernel
theorem rt77 : ∀ j, j < 5 → rt 77 j = 81 + j := by decide +kernel
theorem becomeFactor_ok {a : Nat} {r : Int} {M : Mem} {Q : Mem → Prop} (hr : 0 ≤ r ∧ r ≤ 9) (h : ∀ M' : Mem, FR M' a (fac r) → (∀ k j, k ≠ a → M' k j = M k j) → Q M') : wp_X4_becomeFactor a r M Q := by
  unfold wp_X4_becomeFactor
  rw [w32_id (z := 4 + r) (by omega) (by omega)]
  exact become_ok ⟨by omega, by omega⟩ ⟨by decide, by decide⟩ h
theorem reckonWorth_ok {M : Mem} {Q : Mem → Prop} {rr am : F1} {N : Nat} (hN : N ≤ 5) (h0 : M 27 0 = (N : Int)) (hr : RR rr N) (hrr : ∀ i, i < N → M 30 i = rr i) (ha : ∀ i, i < N → M 72 i = am i ∧ R32 (am i)) (h : ∀ M' : Mem, FR M' 74 (whS rr am N) → (∀ i, i < N → FR M' (81 + i) (wAtS rr (am i) (i + 1))) → (∀ k j, k ≠ 74 → k ≠ 78 → ¬ (81 ≤ k ∧ k ≤ 85) → M' k j = M k j) → Q M') : wp_X10_reckonWorth 73 72 27 M Q := by
  have haL : ∀ i, i < N → inL (am i) := fun i hi => ⟨by have := (ha i hi).2.1; omega, by have := (ha i hi).2.2; omega⟩
  unfold wp_X10_reckonWorth
  rw [rt73.1]
  refine become_int_ok inL_0 (fun M6 z1 z2 => ?_)
  refine ⟨fun M' x3 => ∃ i : Nat, x3 = (i : Int) ∧ i ≤ N ∧ FR M' 74 (whS rr am i) ∧ (∀ c, c < i → FR M' (81 + c) (wAtS rr (am c) (c + 1))) ∧ (∀ k j, k ≠ 74 → k ≠ 78 → ¬ (81 ≤ k ∧ k ≤ 85) → M' k j = M k j), fun _ x3 => ((N : Int) - x3).toNat, ⟨0, rfl, Nat.zero_le _, z1, fun c hc => by omega, fun k j a _ _ => z2 k j a⟩, ?_⟩
  rintro M1 x3 ⟨i, rfl, hi, f1, f2, f3⟩
  unfold wp_X10_reckonWorth_B11
  dsimp only
  rw [f3 27 0 (by decide) (by decide) (by decide), h0, w32n (show N < 2147483648 by omega), w32n (show i < 2147483648 by omega), rt73.2.2.2.1, ixn (show i < 2147483648 by omega)]
  refine ⟨fun u => ?_, fun u => ?_⟩
  · have : i = N := by omega
    subst this
    exact h M1 f1 f2 f3
  have hiN : i < N := by omega
  obtain ⟨a1, a2⟩ := ha i hiN
  rw [rt77 i (by omega), f3 72 i (by decide) (by decide) (by decide), a1, w32_R a2]
  refine ⟨inbn LN_77 (by omega), inbn LN_72 (by omega), become_int_ok (haL i hiN) (fun M2 g1 g2 => ?_)⟩
  refine ⟨fun M' x4 => ∃ k : Nat, x4 = (k : Int) ∧ k ≤ i + 1 ∧ FR M' (81 + i) (wAtS rr (am i) k) ∧ (∀ a j, a ≠ 78 → a ≠ 81 + i → M' a j = M1 a j), fun _ x4 => ((i : Int) + 1 - x4).toNat, ⟨0, rfl, Nat.zero_le _, g1, fun a j _ q => g2 a j q⟩, ?_⟩
  rintro M3 x4 ⟨k, rfl, hk, e1, e2⟩
  unfold wp_X10_reckonWorth_B36
  dsimp only
  rw [w32n (show i < 2147483648 by omega), w32n (show k < 2147483648 by omega), rt73.2.2.2.1, rt73.2.2.2.2.1, rt73.1, ixn (show i < 2147483648 by omega), ixn (show k < 2147483648 by omega), rt77 i (by omega), (SC_rt (Or.inl rfl : SC 27)).2.2.1]
  refine ⟨fun v => ⟨inbn LN_77 (by omega), ?_⟩, fun v => ⟨inbn LN_30 (by omega), ?_⟩⟩
  · have : k = i + 1 := by omega
    subst this
    have w1 := whS_Fr hr haL i (by omega)
    have w2 := wAtS_Fr hr (haL i hiN) (i + 1) (by omega)
    refine add_ok w1 w2 (FR_same f1 (fun j => e2 74 j (by decide) (by omega))) e1 (fun M4 p1 p2 => ⟨⟨i + 1, by omega, by omega, p1, fun c hc => ?_, fun a j q1 q2 q3 => ?_⟩, by omega⟩)
    · by_cases q : c = i
      · subst q; exact FR_same e1 (fun j => p2 _ j (by omega))
      · exact FR_same (f2 c (by omega)) (fun j => by rw [p2 _ j (by omega), e2 _ j (by omega) (by omega)])
    · rw [p2 a j q1, e2 a j q2 (by omega)]; exact f3 a j q1 q2 q3
  · rw [show 27 + 3 = 30 from rfl, e2 30 k (by decide) (by omega), f3 30 k (by decide) (by decide) (by decide), hrr k (by omega)]
    refine becomeFactor_ok (hr k (by omega)) (fun M4 p1 p2 => ⟨inbn LN_77 (by omega), ?_⟩)
    refine divide_ok (by omega) (wAtS_Fr hr (haL i hiN) k (by omega)) (fac_ok (hr k (by omega))).1 (fac_nz (hr k (by omega))) (FR_same e1 (fun j => p2 _ j (by omega))) p1 (fun M5 q1 q2 => ⟨⟨k + 1, by omega, by omega, q1, fun a j y1 y2 => ?_⟩, by omega⟩)
    rw [q2 a j y2, p2 a j y1]; exact e2 a j y1 y2
theorem reckonLength_ok {M : Mem} {Q : Mem → Prop} {rr am : F1} {N : Nat} (hN : N ≤ 5) (hr : RR rr N) (haL : ∀ i, i < N → inL (am i)) (hw : FR M 74 (whS rr am N)) (hnz : ∀ y, whS rr am N = some y → y.1 ≠ 0) (hat : ∀ i, i < N → FR M (81 + i) (wAtS rr (am i) (i + 1))) (h : ∀ M' : Mem, FR M' 75 (ob divq (ltS rr am N) (whS rr am N)) → (∀ k j, k ≠ 75 → k ≠ 79 → M' k j = M k j) → Q M') : wp_X10_reckonLength 73 (N : Int) M Q := by
  unfold wp_X10_reckonLength
  rw [rt73.2.1]
  refine become_int_ok inL_0 (fun M6 z1 z2 => ?_)
  refine ⟨fun M' x2 => ∃ i : Nat, x2 = (i : Int) ∧ i ≤ N ∧ FR M' 75 (ltS rr am i) ∧ (∀ k j, k ≠ 75 → k ≠ 79 → M' k j = M k j), fun _ x2 => ((N : Int) - x2).toNat, ⟨0, rfl, Nat.zero_le _, z1, fun k j a _ => z2 k j a⟩, ?_⟩
  rintro M1 x2 ⟨i, rfl, hi, f1, f2⟩
  unfold wp_X10_reckonLength_B11
  dsimp only
  rw [w32n (show N < 2147483648 by omega), w32n (show i < 2147483648 by omega), rt73.1, rt73.2.1, rt73.2.2.2.1, rt73.2.2.2.2.2.1, ixn (show i < 2147483648 by omega), w32_id (z := (i : Int) + 1) (by omega) (by omega)]
  refine ⟨fun u => ?_, fun u => ?_⟩
  · have : i = N := by omega
    subst this
    exact divide_ok (by decide) (ltS_Fr hN hr haL i (Nat.le_refl _)) (whS_Fr hr haL i (Nat.le_refl _)) hnz f1 (FR_same hw (fun j => f2 74 j (by decide) (by decide))) (fun M2 p1 p2 => h M2 p1 (fun k j a b => by rw [p2 k j a]; exact f2 k j a b))
  have hiN : i < N := by omega
  have o1 := one_Fr hiN hN
  have w1 := wAtS_Fr hr (haL i hiN) (i + 1) (by omega)
  refine become_int_ok ⟨o1.2.2.1, o1.2.2.2.1⟩ (fun M2 p1 p2 => ⟨inbn LN_77 (by omega), ?_⟩)
  rw [rt77 i (by omega)]
  refine multiply_ok (FrO_some o1) w1 p1 (FR_same (hat i hiN) (fun j => by rw [p2 _ j (by omega), f2 _ j (by omega) (by omega)])) (fun M3 q1 q2 => ?_)
  refine add_ok (ltS_Fr hN hr haL i (by omega)) (ob_mul_Fr (FrO_some o1) w1) (FR_same f1 (fun j => by rw [q2 _ j (by decide), p2 _ j (by decide)])) q1 (fun M4 y1 y2 => ⟨⟨i + 1, by omega, by omega, y1, fun k j a b => ?_⟩, by omega⟩)
  rw [y2 k j a, q2 k j b, p2 k j b]; exact f2 k j a b
theorem reckonSpread_ok {M : Mem} {Q : Mem → Prop} {rr am : F1} {N : Nat} {mid : Q2} (hm : FrO mid) (hN : N ≤ 5) (hr : RR rr N) (haL : ∀ i, i < N → inL (am i)) (hw : FR M 74 (whS rr am N)) (hnz : ∀ y, whS rr am N = some y → y.1 ≠ 0) (hmid : FR M 75 mid) (hat : ∀ i, i < N → FR M (81 + i) (wAtS rr (am i) (i + 1))) (h : ∀ M' : Mem, FR M' 76 (ob divq (spS rr am mid N) (whS rr am N)) → (∀ k j, k ≠ 76 → k ≠ 79 → k ≠ 80 → M' k j = M k j) → Q M') : wp_X10_reckonSpread 73 (N : Int) M Q := by
  unfold wp_X10_reckonSpread
  rw [rt73.2.2.1]
  refine become_int_ok inL_0 (fun M6 z1 z2 => ?_)
  refine ⟨fun M' x2 => ∃ i : Nat, x2 = (i : Int) ∧ i ≤ N ∧ FR M' 76 (spS rr am mid i) ∧ (∀ k j, k ≠ 76 → k ≠ 79 → k ≠ 80 → M' k j = M k j), fun _ x2 => ((N : Int) - x2).toNat, ⟨0, rfl, Nat.zero_le _, z1, fun k j a _ _ => z2 k j a⟩, ?_⟩
  rintro M1 x2 ⟨i, rfl, hi, f1, f2⟩
  unfold wp_X10_reckonSpread_B11
  dsimp only
  rw [w32n (show N < 2147483648 by omega), w32n (show i < 2147483648 by omega), rt73.1, rt73.2.1, rt73.2.2.1, rt73.2.2.2.1, rt73.2.2.2.2.2.1, rt73.2.2.2.2.2.2, ixn (show i < 2147483648 by omega), w32_id (z := (i : Int) + 1) (by omega) (by omega)]
  refine ⟨fun u => ?_, fun u => ?_⟩
  · have : i = N := by omega
    subst this
    exact divide_ok (by decide) (spS_Fr hm hN hr haL i (Nat.le_refl _)) (whS_Fr hr haL i (Nat.le_refl _)) hnz f1 (FR_same hw (fun j => f2 74 j (by decide) (by decide) (by decide))) (fun M2 p1 p2 => h M2 p1 (fun k j a b c => by rw [p2 k j a]; exact f2 k j a b c))
  have hiN : i < N := by omega
  have o1 := one_Fr hiN hN
  have w1 := wAtS_Fr hr (haL i hiN) (i + 1) (by omega)
  have hd := distS_Fr hm hiN hN
  rw [rt77 i (by omega)]
  refine becomeF_ok (by decide) (FR_same hmid (fun j => f2 75 j (by decide) (by decide) (by decide))) (fun M2 p1 p2 => ?_)
  refine negate_ok p1 (fun M3 q1 q2 => ?_)
  refine become_int_ok ⟨o1.2.2.1, o1.2.2.2.1⟩ (fun M4 s1 s2 => ?_)
  refine add_ok (FrO_some o1) (map_neg_Fr hm) s1 (FR_same q1 (fun j => s2 _ j (by decide))) (fun M5 t1 t2 => ?_)
  refine becomeF_ok (by decide) t1 (fun M6 u1 u2 => ?_)
  refine multiply_ok hd hd u1 (FR_same t1 (fun j => u2 _ j (by decide))) (fun M7 v1 v2 => ⟨inbn LN_77 (by omega), ?_⟩)
  refine multiply_ok (ob_mul_Fr hd hd) w1 v1 (FR_same (hat i hiN) (fun j => by rw [v2 _ j (by omega), u2 _ j (by omega), t2 _ j (by omega), s2 _ j (by omega), q2 _ j (by omega), p2 _ j (by omega), f2 _ j (by omega) (by omega) (by omega)])) (fun M8 x1 x2 => ?_)
  refine add_ok (spS_Fr hm hN hr haL i (by omega)) (ob_mul_Fr (ob_mul_Fr hd hd) w1) (FR_same f1 (fun j => by rw [x2 _ j (by decide), v2 _ j (by decide), u2 _ j (by decide), t2 _ j (by decide), s2 _ j (by decide), q2 _ j (by decide), p2 _ j (by decide)])) x1 (fun M9 y1 y2 => ⟨⟨i + 1, by omega, by omega, y1, fun k j a b c => ?_⟩, by omega⟩)
  rw [y2 k j a, x2 k j b, v2 k j b, u2 k j b, t2 k j c, s2 k j c, q2 k j b, p2 k j b]; exact f2 k j a b c
