/-! the dictionary as it is at first -/
def carryC (rr : F1) (f : Nat → Int) : Nat → Q2
  | 0 => ob addq (some (0, 1)) (some (f 0, 1))
  | i + 1 => ob addq (ob mulq (carryC rr f i) (fac (rr (i + 1)))) (some (f (i + 1), 1))
def onS (N : Nat) (lm : Nat → Int) (k : Nat) : Bool := if k < 5 then decide (k < N) else if k < 9 then decide (k - 5 + 1 < N ∧ lm (k - 5) ≠ -1) else decide (k = 9)
def nego (du : Nat → Int) : Nat → Int := fun i => -du i
def startQ (n : Nat) (rr : F1) (v : Nat → Nat → Int) (du lm pr : Nat → Int) : QD :=
  (fun k => if k < 5 then 10 + k else if k < 9 then 20 + (k - 5) else 99,
   fun k => if k < 5 then carryC rr (nego du) k else if k < 9 then ob addq ((carryC rr (nego du) (k - 5)).map negq) (some (lm (k - 5), 1)) else some (0, 1),
   fun k j => if n ≤ j then some (0, 1) else if k < 5 then carryC rr (v j) k else if k < 9 then (carryC rr (v j) (k - 5)).map negq else some (pr j, 1),
   fun j => j)
/-- the scene's rows as the dictionary reads them -/
def DatR (N n : Nat) (rr : F1) (v : Nat → Nat → Int) (du lm pr : Nat → Int) : Prop :=
  N ≤ 5 ∧ n ≤ 5 ∧ (∀ i, i < N → (0 ≤ rr i ∧ rr i ≤ 9) ∧ (0 ≤ du i ∧ du i ≤ 99) ∧ (-1 ≤ lm i ∧ lm i ≤ 99) ∧ ∀ j, j < n → 0 ≤ v j i ∧ v j i ≤ 18000) ∧ ∀ j, j < n → 0 ≤ pr j ∧ pr j ≤ 99
def DatC (N n : Nat) (rr : F1) (v : Nat → Nat → Int) (du lm : Nat → Int) (M : Mem) : Prop :=
  M 27 0 = (N : Int) ∧ ∀ i, i < N → M 30 i = rr i ∧ M 29 i = du i ∧ M 31 i = lm i ∧ ∀ j, j < n → M (41 + j) i = v j i
theorem DatC_same {N n : Nat} {rr : F1} {v : Nat → Nat → Int} {du lm : Nat → Int} {M M' : Mem} (hn : n ≤ 5) (h : DatC N n rr v du lm M) (e : ∀ k j, 27 ≤ k → k < 48 → M' k j = M k j) : DatC N n rr v du lm M' := by
  refine ⟨by rw [e _ _ (by decide) (by decide)]; exact h.1, fun i hi => ?_⟩
  obtain ⟨a, b, c, d⟩ := h.2 i hi
  exact ⟨by rw [e _ _ (by decide) (by decide)]; exact a, by rw [e _ _ (by decide) (by decide)]; exact b, by rw [e _ _ (by decide) (by decide)]; exact c, fun j hj => by rw [e _ _ (by omega) (by omega)]; exact d j hj⟩
theorem int_Fr {z : Int} (h : -1000000 < z ∧ z < 1000000) : FrO (some (z, 1)) := FrO_some (Fr_int ⟨by omega, by omega⟩)
theorem carryC_Fr {N : Nat} {rr : F1} {f : Nat → Int} (hr : ∀ i, i < N → 0 ≤ rr i ∧ rr i ≤ 9) (hf : ∀ i, i < N → -1000000 < f i ∧ f i < 1000000) : ∀ i, i < N → FrO (carryC rr f i)
  | 0, h => ob_add_Fr (int_Fr (by decide)) (int_Fr (hf 0 h))
  | i + 1, h => ob_add_Fr (ob_mul_Fr (carryC_Fr hr hf i (by omega)) (fac_ok (hr _ h)).1) (int_Fr (hf _ h))
theorem zero_fac {r : Int} (h : 0 ≤ r ∧ r ≤ 9) : ob mulq (some (0, 1)) (fac r) = some (0, 1) := by
  obtain ⟨hF, x, e, xF, xp⟩ := fac_ok h
  rw [e]
  obtain ⟨x1, x2, x3, x4, x5⟩ := xF
  show mulq (0, 1) x = some (0, 1)
  unfold mulq
  dsimp only
  rw [Int.zero_mul, Int.one_mul, if_pos (by rw [show fitsL 0 = true from by decide, show fitsL x.2 = true from decide_eq_true (by omega)]; rfl), redq_some (by decide) (decide_eq_true (by omega))]
  have g : gcI 0 x.2 = x.2 := by
    unfold gcI
    rw [Int.gcd_zero_left]
    omega
  rw [g, Int.zero_tdiv, Int.tdiv_self (by omega)]
theorem int32 {z : Int} (h : -1000000 < z ∧ z < 1000000) : w32 z = z := w32_id (by omega) (by omega)
theorem smallL {z : Int} (h : -1000000 < z ∧ z < 1000000) : inL z := ⟨by omega, by omega⟩
theorem rt_40' : ∀ j, j < 5 → rt 40 j = 41 + j := rt_40
theorem LN_paid {j : Nat} (h : j < 5) : LN (41 + j) 5 := by
  rcases (show j = 0 ∨ j = 1 ∨ j = 2 ∨ j = 3 ∨ j = 4 by omega) with rfl | rfl | rfl | rfl | rfl
  · exact LN_41
  · exact LN_42
  · exact LN_43
  · exact LN_44
  · exact LN_45
theorem rt_27x : rt 27 2 = 29 ∧ rt 27 3 = 30 ∧ rt 27 4 = 31 ∧ rt 27 8 = 40 := by decide +kernel
/-- one carry -/
theorem beginCarry_ok {N n : Nat} {rr : F1} {v : Nat → Nat → Int} {du lm pr : Nat → Int} (hg : DatR N n rr v du lm pr) {i : Nat} (hi : i < N) {M : Mem} (hc : DatC N n rr v du lm M) (h4 : M 87 4 = (n : Int)) (hp : 0 < i → RQ M (102 + 8 * (i - 1)) (carryC rr (nego du) (i - 1)) (fun j => if n ≤ j then some (0, 1) else carryC rr (v j) (i - 1))) {Q : Mem → Prop} (h : ∀ M' : Mem, M' (102 + 8 * i) 0 = ((10 + i : Nat) : Int) → RQ M' (102 + 8 * i) (carryC rr (nego du) i) (fun j => if n ≤ j then some (0, 1) else carryC rr (v j) i) → (∀ k j, ¬ (102 + 8 * i ≤ k ∧ k < 102 + 8 * i + 8) → k ≠ 98 → k ≠ 99 → M' k j = M k j) → Q M') : wp_X3_beginCarry 87 (i : Int) 27 M Q := by
  obtain ⟨hN, hn, hd, hpr⟩ := hg
  obtain ⟨hri, hdi, hli, hvi⟩ := hd i hi
  have hrr : ∀ i, i < N → 0 ≤ rr i ∧ rr i ≤ 9 := fun i hi => (hd i hi).1
  have hdu : ∀ i, i < N → -1000000 < nego du i ∧ nego du i < 1000000 := fun i hi => by
    have := (hd i hi).2.1
    unfold nego
    omega
  have hv : ∀ j, j < n → ∀ i, i < N → -1000000 < v j i ∧ v j i < 1000000 := fun j hj i hi => by
    have := (hd i hi).2.2.2 j hj
    omega
  have i5 : i < 5 := by omega
  have ra := IsRw_p (show i < 9 by omega)
  obtain ⟨r1, r2, r3, r4⟩ := id ra
  -- behind the carry of the rung ahead, grown
  have rest : ∀ (b : Q2) (s : Nat → Q2) (M1 : Mem), FrO b → (∀ j, j < n → FrO (s j)) → RQ M1 (102 + 8 * i) b s → M1 (102 + 8 * i) 0 = ((10 + i : Nat) : Int) → (∀ k j, ¬ (102 + 8 * i ≤ k ∧ k < 102 + 8 * i + 8) → k ≠ 98 → k ≠ 99 → M1 k j = M k j) → ob addq b (some (nego du i, 1)) = carryC rr (nego du) i → (∀ j, j < n → ob addq (s j) (some (v j i, 1)) = carryC rr (v j) i) → (∀ j, n ≤ j → j < 5 → s j = some (0, 1)) → wp_X3_beginCarry_b52 87 27 Q M1 (i : Int) (102 + 8 * i) := by
    intro b s M1 bF sF hr h0 hfr eb es et
    unfold wp_X3_beginCarry_b52
    refine ⟨fun M' x4 => ∃ k : Nat, x4 = (k : Int) ∧ k ≤ n ∧ M' (102 + 8 * i) 0 = ((10 + i : Nat) : Int) ∧ FR M' (102 + 8 * i + 1) b ∧ (∀ j, j < k → FR M' (102 + 8 * i + 3 + j) (carryC rr (v j) i)) ∧ (∀ j, k ≤ j → j < 5 → FR M' (102 + 8 * i + 3 + j) (s j)) ∧ ∀ k j, ¬ (102 + 8 * i ≤ k ∧ k < 102 + 8 * i + 8) → k ≠ 98 → k ≠ 99 → M' k j = M k j, fun _ x4 => ((n : Int) - x4).toNat, ⟨0, rfl, Nat.zero_le _, h0, hr.1, fun _ q => absurd q (Nat.not_lt_zero _), fun j _ hj => hr.2 j hj, hfr⟩, ?_⟩
    rintro M2 x4 ⟨k, rfl, hk, f1, f2, f3, f4, f5⟩
    unfold wp_X3_beginCarry_B55
    dsimp only
    have cc := (DatC_same hn hc (fun k j q1 q2 => f5 k j (by omega) (by omega) (by omega))).2 i hi
    rw [f5 87 4 (by omega) (by decide) (by decide), h4, w32n (show k < 2147483648 by omega), w32n (show n < 2147483648 by omega), ixn (show k < 2147483648 by omega), ixn (show i < 2147483648 by omega), rt_27x.1, rt_27x.2.2.2, r1, r2, rt_87.2.2.2.2.1]
    refine ⟨fun u => ⟨inbn LN_29 i5, ?_⟩, fun u => ⟨inbn LN_40 (by omega), ?_⟩⟩
    · have : k = n := by omega
      subst this
      rw [cc.2.1, int32 (z := -du i) (by omega)]
      refine become_int_ok (smallL (by omega)) (fun M3 a1 a2 => ?_)
      refine add_ok bF (int_Fr (by omega)) (FR_same f2 (fun j => a2 _ j (by omega))) a1 (fun M4 b1 b2 => ?_)
      have eb : ob addq b (some (-du i, 1)) = carryC rr (nego du) i := eb
      rw [eb] at b1
      refine h M4 ?_ ⟨b1, fun j hj => ?_⟩ (fun k j q1 q2 q3 => by rw [b2 k j (by omega), a2 k j (by omega)]; exact f5 k j q1 q2 q3)
      · rw [b2 _ 0 (by omega), a2 _ 0 (by omega)]; exact f1
      · dsimp only
        by_cases q : k ≤ j
        · rw [if_pos q]
          have := f4 j q hj
          rw [et j q hj] at this
          exact FR_same this (fun c => by rw [b2 _ c (by omega), a2 _ c (by omega)])
        · rw [if_neg q]
          exact FR_same (f3 j (by omega)) (fun c => by rw [b2 _ c (by omega), a2 _ c (by omega)])
    · have k5 : k < 5 := by omega
      have kn : k < n := by omega
      have hvk := hvi k kn
      rw [rt_40 k k5, cc.2.2.2 k kn, int32 (z := v k i) (by omega)]
      refine ⟨inbn (LN_paid k5) i5, ?_⟩
      refine become_int_ok (smallL (by omega)) (fun M3 a1 a2 => ⟨inbn r3 k5, ?_⟩)
      rw [r4 k k5]
      refine add_ok (sF k kn) (int_Fr (by omega)) (FR_same (f4 k (Nat.le_refl _) k5) (fun j => a2 _ j (by omega))) a1 (fun M4 b1 b2 => ?_)
      rw [es k kn] at b1
      refine ⟨⟨k + 1, rfl, kn, ?_, ?_, fun j hj => ?_, fun j j1 j2 => ?_, fun k2 j q1 q2 q3 => ?_⟩, by omega⟩
      · rw [b2 _ 0 (by omega), a2 _ 0 (by omega)]; exact f1
      · exact FR_same f2 (fun c => by rw [b2 _ c (by omega), a2 _ c (by omega)])
      · by_cases y : j = k
        · subst y; exact b1
        · exact FR_same (f3 j (by omega)) (fun c => by rw [b2 _ c (by omega), a2 _ c (by omega)])
      · exact FR_same (f4 j (by omega) j2) (fun c => by rw [b2 _ c (by omega), a2 _ c (by omega)])
      · rw [b2 k2 j (by omega), a2 k2 j (by omega)]; exact f5 k2 j q1 q2 q3
  unfold wp_X3_beginCarry
  rw [rt_87.2.1, ixn (show i < 2147483648 by omega), rt_96 i (by omega), w32n (show i < 2147483648 by omega)]
  refine ⟨inbn LN_96 (by omega), ?_⟩
  refine X7_begin_ok ra (fun M1 a0 a1 a2 => ⟨fun u => ?_, fun u => ?_⟩)
  · have : i = 0 := by omega
    subst this
    exact rest _ _ M1 (int_Fr (by decide)) (fun _ _ => int_Fr (by decide)) a1 (by rw [a0]; omega) (fun k j q1 _ _ => a2 k j q1) rfl (fun _ _ => rfl) (fun _ _ _ => rfl)
  · obtain ⟨i', rfl⟩ : ∃ i', i = i' + 1 := ⟨i - 1, by omega⟩
    have ei : (((i' + 1 : Nat) : Int) - 1) = (i' : Int) := by omega
    rw [ei, ixn (show i' < 2147483648 by omega), rt_96 i' (by omega), rt_27x.2.1, rt_87.2.2.2.1]
    refine ⟨inbn LN_96 (by omega), ?_⟩
    have hp := hp (by omega)
    rw [show i' + 1 - 1 = i' by omega] at hp
    refine X7_become_ok ra (IsRw_p (by omega)) (by omega) (RQ_same hp (fun k j q1 q2 => a2 k j (by omega))) (fun M2 b1 b2 => ⟨inbn LN_30 i5, ?_⟩)
    have fr2 : ∀ k j, ¬ (102 + 8 * (i' + 1) ≤ k ∧ k < 102 + 8 * (i' + 1) + 8) → M2 k j = M k j := fun k j q => by rw [b2 k j (by omega), a2 k j q]
    have cc := (DatC_same hn hc (fun k j q1 q2 => fr2 k j (by omega))).2 (i' + 1) hi
    rw [cc.1]
    refine becomeFactor_ok hri (fun M3 c1 c2 => ?_)
    have bF := carryC_Fr hrr hdu i' (by omega)
    have sF : ∀ j, j < 5 → FrO ((fun j => if n ≤ j then some (0, 1) else carryC rr (v j) i') j) := fun j _ => by
      dsimp only
      split
      · exact int_Fr (by decide)
      · exact carryC_Fr hrr (hv j (by omega)) i' (by omega)
    have fF := (fac_ok hri).1
    refine X7_multiply_ok ra (by omega) (RQ_same b1 (fun k j q1 q2 => c2 k j (by omega))) c1 bF sF fF (fun M4 d1 d2 => ?_)
    refine rest _ _ M4 (ob_mul_Fr bF fF) (fun j hj => ob_mul_Fr (sF j (by omega)) fF) d1 ?_ (fun k j q1 q2 q3 => ?_) rfl (fun j hj => ?_) (fun j q1 q2 => ?_)
    · rw [d2 _ 0 (by omega), c2 _ 0 (by omega), b2 _ 0 (by omega), a0]
      omega
    · rw [d2 k j (by omega), c2 k j (by omega)]
      exact fr2 k j q1
    · rw [if_neg (by omega)]
      rfl
    · rw [if_pos q1]
      exact zero_fac hri
