/-! what the class reads of its dictionary -/
def prUp (D : QD) (v : Nat) : Nat → Q2
  | 0 => some (0, 1)
  | j + 1 => if D.so j = v then D.S 9 j else prUp D v j
def IsAmt (on : Nat → Bool) (D : QD) (v : Nat) (q : Q2) : Prop := (∃ k, k < 9 ∧ on k = true ∧ D.num k = v ∧ q = D.B k) ∨ (q = some (0, 1) ∧ ∀ k, k < 9 → on k = true → D.num k ≠ v)
theorem IsAmt_uni {n : Nat} {on : Nat → Bool} {D : QD} (N : NumQ n on D) {v : Nat} {q q' : Q2} (h : IsAmt on D v q) (h' : IsAmt on D v q') : q = q' := by
  rcases h with ⟨k, k1, k2, k3, rfl⟩ | ⟨rfl, h⟩ <;> rcases h' with ⟨k', k1', k2', k3', rfl⟩ | ⟨rfl, h'⟩
  · rw [N.2.1 k k' k1 k1' k2 k2' (by omega)]
  · exact absurd k3 (h' k k1 k2)
  · exact absurd k3' (h k' k1' k2')
  · rfl
theorem IsAmt_rows {n H : Nat} {on : Nat → Bool} {key : Nat → Nat} (K : KeyOK n H on key) {D : QD} {v : Nat} {q : Q2} (h : (∃ i, i < H ∧ D.num (key i) = v ∧ q = D.B (key i)) ∨ (q = some (0, 1) ∧ ∀ i, i < H → D.num (key i) ≠ v)) : IsAmt on D v q := by
  rcases h with ⟨i, hi, e, e2⟩ | ⟨e, h⟩
  · exact Or.inl ⟨key i, (K.2.2.1 i hi).1, (K.2.2.1 i hi).2, e, e2⟩
  · refine Or.inr ⟨e, fun k hk o => ?_⟩
    obtain ⟨r, hr, rfl⟩ := K.2.2.2.2.1 k hk o
    exact h r hr
theorem zeroF : (some (0, 1) : Q2) = some (0, 1) := rfl
theorem amountOf_ok {n H : Nat} {on : Nat → Bool} {key : Nat → Nat} (K : KeyOK n H on key) {D : QD} (N : NumQ n on D) {M : Mem} (hM : DicC n H key M D) {v a : Nat} (hv : v < 99) (ha : a < 87 ∨ (98 ≤ a ∧ a < 102)) {Q : Mem → Prop} (h : ∀ (M' : Mem) (q : Q2), IsAmt on D v q → FR M' a q → (∀ k j, k ≠ a → M' k j = M k j) → Q M') : wp_X3_amountOf 87 (v : Int) a M Q := by
  obtain ⟨k1, k2, k3, k4, k5, k6⟩ := id K
  obtain ⟨m1, m2, m3, m4, m5⟩ := hM
  unfold wp_X3_amountOf
  refine become_int_ok inL_0 (fun M1 a1 a2 => ?_)
  refine ⟨fun M' x3 => ∃ (k : Nat) (q : Q2), x3 = (k : Int) ∧ k ≤ H ∧ FR M' a q ∧ (∀ c j, c ≠ a → M' c j = M c j) ∧ ((∃ i, i < k ∧ D.num (key i) = v ∧ q = D.B (key i)) ∨ (q = some (0, 1) ∧ ∀ i, i < k → D.num (key i) ≠ v)), fun _ x3 => ((H : Int) - x3).toNat, ⟨0, _, rfl, Nat.zero_le _, a1, a2, Or.inr ⟨rfl, fun _ q => absurd q (Nat.not_lt_zero _)⟩⟩, ?_⟩
  rintro M2 x3 ⟨k, q, rfl, hk, f1, f2, f3⟩
  unfold wp_X3_amountOf_B8 wp_X3_amountOf_b42
  dsimp only
  have μk : k < H → ((H : Int) - ((k : Int) + 1)).toNat < ((H : Int) - (k : Int)).toNat := fun z => by clear f3; omega
  rw [f2 87 2 (by clear f3; omega), m2, w32n (show k < 2147483648 by clear f3; omega), w32n (show H < 2147483648 by clear f3; omega), ixn (show k < 2147483648 by clear f3; omega), rt_87.2.1, w32n (show v < 2147483648 by clear f3; omega)]
  refine ⟨fun u => ?_, fun u => ?_⟩
  · have : k = H := by clear f3; omega
    subst this
    exact h M2 q (IsAmt_rows K f3) f1 f2
  have kH : k < H := by clear f3; omega
  have nk := N.1 _ (k3 k kH).1 (k3 k kH).2
  rw [rt_96 k (by clear f3; omega), (IsRw_p (show k < 9 by clear f3; omega)).1, f2 _ 0 (by clear f3; omega), (m3 k kH).1, w32n (show D.num (key k) < 2147483648 by clear f3; omega)]
  refine ⟨inbn LN_96 (by clear f3; omega), fun z => ⟨⟨k + 1, q, rfl, kH, f1, f2, ?_⟩, μk kH⟩, fun z => ⟨inbn LN_96 (by clear f3; omega), ?_⟩⟩
  · rcases f3 with ⟨i, i1, i2⟩ | ⟨e, f⟩
    · exact Or.inl ⟨i, by omega, i2⟩
    · refine Or.inr ⟨e, fun i hi => ?_⟩
      rcases Nat.lt_or_ge i k with y | y
      · exact f i y
      · rw [show i = k by omega]
        exact fun w => z (by rw [w])
  · refine becomeF_ok (by clear f3; omega) (FR_same (m3 k kH).2.1 (fun j => f2 _ j (by clear f3; omega))) (fun M3 c1 c2 => ⟨⟨k + 1, _, rfl, kH, c1, fun c j q => ?_, Or.inl ⟨k, by omega, by clear f3; omega, rfl⟩⟩, μk kH⟩)
    rw [c2 c j q]
    exact f2 c j q
theorem priceOf_ok {n H : Nat} {on : Nat → Bool} {key : Nat → Nat} (K : KeyOK n H on key) {D : QD} (N : NumQ n on D) {M : Mem} (hM : DicC n H key M D) {v a : Nat} (hv : v < 99) (ha : a < 87 ∨ (98 ≤ a ∧ a < 102)) {Q : Mem → Prop} (h : ∀ M' : Mem, FR M' a (prUp D v n) → (∀ k j, k ≠ a → M' k j = M k j) → Q M') : wp_X3_priceOf 87 (v : Int) a M Q := by
  obtain ⟨k1, k2, k3, k4, k5, k6⟩ := id K
  obtain ⟨m1, m2, m3, m4, m5⟩ := hM
  unfold wp_X3_priceOf
  refine become_int_ok inL_0 (fun M1 a1 a2 => ?_)
  refine ⟨fun M' x3 => ∃ k : Nat, x3 = (k : Int) ∧ k ≤ n ∧ FR M' a (prUp D v k) ∧ ∀ c j, c ≠ a → M' c j = M c j, fun _ x3 => ((n : Int) - x3).toNat, ⟨0, rfl, Nat.zero_le _, a1, a2⟩, ?_⟩
  rintro M2 x3 ⟨k, rfl, hk, f1, f2⟩
  unfold wp_X3_priceOf_B8 wp_X3_priceOf_b39
  dsimp only
  rw [f2 87 4 (by omega), m1, w32n (show k < 2147483648 by omega), w32n (show n < 2147483648 by omega), ixn (show k < 2147483648 by omega), rt_87.2.2.1, rt_87.1, rw_88.2.1, w32n (show v < 2147483648 by omega)]
  refine ⟨fun u => ?_, fun u => ⟨inbn LN_97 (by omega), ?_⟩⟩
  · have : k = n := by omega
    subst this
    exact h M2 f1 f2
  have kn : k < n := by omega
  have sk := N.2.2.1 k kn
  rw [rw_88.2.2.2 k (by omega), f2 97 k (by omega), m5 k kn, w32n (show D.so k < 2147483648 by omega)]
  have e : prUp D v (k + 1) = if D.so k = v then D.S 9 k else prUp D v k := rfl
  refine ⟨fun z => ⟨⟨k + 1, rfl, kn, ?_, f2⟩, by omega⟩, fun z => ⟨inbn LN_90 (by omega), ?_⟩⟩
  · rw [e, if_neg (fun w => z (by rw [w]))]
    exact f1
  · refine becomeF_ok (by omega) (FR_same (m4.2 k (by omega)) (fun j => f2 _ j (by omega))) (fun M3 c1 c2 => ⟨⟨k + 1, rfl, kn, ?_, fun c j q => ?_⟩, by omega⟩)
    · rw [e, if_pos (by omega)]
      exact c1
    · rw [c2 c j q]
      exact f2 c j q
theorem prUp_Fr {n : Nat} {on : Nat → Bool} {D : QD} (w : WFQ n on D) (o9 : on 9 = true) (v : Nat) : ∀ m, m ≤ n → FrO (prUp D v m)
  | 0, _ => int_Fr (by decide)
  | m + 1, h => by
    unfold prUp
    split
    · exact (w 9 (by decide) o9).2 m (by omega)
    · exact prUp_Fr w o9 v m (by omega)
/-- what a rung's carry and room come to, less -/
def ratQ (n : Nat) (D : QD) (k : Nat) : Q2 := ob addq (prUp D (10 + k) n) ((prUp D (20 + k) n).map negq)
def pvS (n N : Nat) (rr : F1) (D : QD) : Nat → Q2
  | 0 => ratQ n D (N - 1)
  | t + 1 => ob addq (ob mulq (pvS n N rr D t) (fac (rr (N - 1 - t)))) (ratQ n D (N - 2 - t))
theorem ratQ_Fr {n : Nat} {on : Nat → Bool} {D : QD} (w : WFQ n on D) (o9 : on 9 = true) (k : Nat) : FrO (ratQ n D k) := ob_add_Fr (prUp_Fr w o9 _ n (Nat.le_refl _)) (map_neg_Fr (prUp_Fr w o9 _ n (Nat.le_refl _)))
theorem pvS_Fr {n N : Nat} {rr : F1} {on : Nat → Bool} {D : QD} (w : WFQ n on D) (o9 : on 9 = true) (hr : ∀ i, i < N → 0 ≤ rr i ∧ rr i ≤ 9) : ∀ t, t < N → FrO (pvS n N rr D t)
  | 0, _ => ratQ_Fr w o9 _
  | t + 1, h => ob_add_Fr (ob_mul_Fr (pvS_Fr w o9 hr t (by omega)) (fac_ok (hr _ (by omega))).1) (ratQ_Fr w o9 _)
theorem zero_add {q : Q2} (h : FrO q) : ob addq (some (0, 1)) q = q := by
  cases q with
  | none => rfl
  | some x =>
    have xF := h x rfl
    have s := redq_self xF
    obtain ⟨x1, x2, x3, x4, x5⟩ := xF
    show addq (0, 1) x = some x
    unfold addq
    dsimp only
    rw [Int.zero_mul, Int.one_mul, Int.mul_one, Int.zero_add, if_pos (by rw [show fitsL 0 = true from by decide, show fitsL x.1 = true from decide_eq_true (by omega), show fitsL x.2 = true from decide_eq_true (by omega)]; rfl)]
    exact s
theorem prove_ok {n H N : Nat} {rr : F1} {on : Nat → Bool} {key : Nat → Nat} (K : KeyOK n H on key) {D : QD} (w : WFQ n on D) (Nq : NumQ n on D) {M : Mem} (hM : DicC n H key M D) (hN : N ≤ 5) (h0 : M 27 0 = (N : Int)) (hr : ∀ i, i < N → (0 ≤ rr i ∧ rr i ≤ 9) ∧ M 30 i = rr i) {i : Nat} (hi : i < N) {Q : Mem → Prop} (h : ∀ M' : Mem, FR M' 86 (pvS n N rr D (N - 1 - i)) → (∀ k j, k ≠ 86 → ¬ (98 ≤ k ∧ k < 102) → M' k j = M k j) → Q M') : wp_X3_prove 87 (i : Int) 27 86 M Q := by
  have o9 := K.2.2.2.2.2
  have hH := K.1
  have hrr : ∀ i, i < N → 0 ≤ rr i ∧ rr i ≤ 9 := fun i hi => (hr i hi).1
  unfold wp_X3_prove
  refine become_int_ok inL_0 (fun M1 a1 a2 => ?_)
  rw [a2 27 0 (by decide), h0]
  -- t rungs are behind
  refine ⟨fun M' x4 => ∃ t : Nat, x4 = (N : Int) - 1 - (t : Int) ∧ t ≤ N - i ∧ FR M' 86 (match t with | 0 => some (0, 1) | t + 1 => pvS n N rr D t) ∧ ∀ k j, k ≠ 86 → ¬ (98 ≤ k ∧ k < 102) → M' k j = M k j, fun _ x4 => (x4 + 1).toNat, ⟨0, by omega, Nat.zero_le _, a1, fun k j q1 _ => a2 k j q1⟩, ?_⟩
  rintro M2 x4 ⟨t, rfl, ht, f1, f2⟩
  unfold wp_X3_prove_B14
  rw [f2 27 0 (by decide) (by decide), h0, w32_id (z := (N : Int) - 1 - (t : Int)) (by omega) (by omega), w32n (show i < 2147483648 by omega), w32_id (z := (N : Int) - 1) (by omega) (by omega), rt_27x.2.1, rt_87.2.2.2.1]
  refine ⟨fun u => ?_, fun u => ?_⟩
  · have : t = N - i := by omega
    subst this
    obtain ⟨s, hs⟩ : ∃ s, N - i = s + 1 := ⟨N - i - 1, by omega⟩
    rw [hs] at f1
    have : N - 1 - i = s := by omega
    rw [← this] at f1
    exact h M2 f1 f2
  obtain ⟨k, hk⟩ : ∃ k : Nat, (N : Int) - 1 - (t : Int) = (k : Int) := ⟨N - 1 - t, by omega⟩
  have hk2 : k = N - 1 - t := by omega
  rw [hk]
  -- behind the growth
  have rest : ∀ (M3 : Mem) (p : Q2), FrO p → FR M3 86 p → (∀ k j, k ≠ 86 → ¬ (98 ≤ k ∧ k < 102) → M3 k j = M k j) → ob addq p (ratQ n D k) = pvS n N rr D t → wp_X3_prove_b55 87 27 86 Q (fun M' x4' => (∃ t : Nat, x4' = (N : Int) - 1 - (t : Int) ∧ t ≤ N - i ∧ FR M' 86 (match t with | 0 => some (0, 1) | t + 1 => pvS n N rr D t) ∧ ∀ k j, k ≠ 86 → ¬ (98 ≤ k ∧ k < 102) → M' k j = M k j) ∧ (x4' + 1).toNat < ((k : Int) + 1).toNat) M3 (i : Int) (k : Int) := by
    intro M3 p pF hp hf e
    have dd : ∀ M' : Mem, (∀ k j, k ≠ 86 → ¬ (98 ≤ k ∧ k < 102) → M' k j = M k j) → DicC n H key M' D := fun M' q => DicC_same hH hM (fun k j q1 q2 q3 => q k j (by omega) (by omega))
    have e20 : (20 : Int) + (k : Int) = ((20 + k : Nat) : Int) := by omega
    have e10 : (10 : Int) + (k : Int) = ((10 + k : Nat) : Int) := by omega
    unfold wp_X3_prove_b55
    rw [rt_87.2.2.2.2.1, rt_87.2.2.2.2.2.1, e20, e10]
    refine priceOf_ok K Nq (dd M3 hf) (by omega) (Or.inr (by decide)) (fun M4 b1 b2 => ?_)
    refine negate_ok b1 (fun M5 c1 c2 => ?_)
    have hf5 : ∀ k j, k ≠ 86 → ¬ (98 ≤ k ∧ k < 102) → M5 k j = M k j := fun k j q1 q2 => by rw [c2 k j (by omega), b2 k j (by omega)]; exact hf k j q1 q2
    refine priceOf_ok K Nq (dd M5 hf5) (by omega) (Or.inr (by decide)) (fun M6 d1 d2 => ?_)
    have pr := fun v => prUp_Fr w o9 v n (Nat.le_refl _)
    refine add_ok (pr _) (map_neg_Fr (pr _)) d1 (FR_same c1 (fun j => d2 _ j (by decide))) (fun M7 g1 g2 => ?_)
    have g1 : FR M7 100 (ratQ n D k) := g1
    refine add_ok pF (ratQ_Fr w o9 k) (FR_same hp (fun j => by rw [g2 _ j (by decide), d2 _ j (by decide), c2 _ j (by decide), b2 _ j (by decide)])) g1 (fun M8 m1 m2 => ?_)
    rw [e] at m1
    exact ⟨⟨t + 1, by omega, by omega, m1, fun k j q1 q2 => by rw [m2 k j q1, g2 k j (by omega), d2 k j (by omega)]; exact hf5 k j q1 q2⟩, by omega⟩
  refine ⟨fun v => ?_, fun v => ?_⟩
  · have t0 : t = 0 := by omega
    subst t0
    refine rest M2 _ (int_Fr (by decide)) f1 f2 ?_
    rw [zero_add (ratQ_Fr w o9 k), hk2]
    rfl
  · obtain ⟨t', rfl⟩ : ∃ t', t = t' + 1 := ⟨t - 1, by omega⟩
    have e1 : (k : Int) + 1 = ((k + 1 : Nat) : Int) := by omega
    have k5 : k + 1 < N := by omega
    rw [e1, ixn (show k + 1 < 2147483648 by omega), f2 30 _ (by decide) (by decide), (hr (k + 1) k5).2]
    refine ⟨inbn LN_30 (by omega), ?_⟩
    have f1 : FR M2 86 (pvS n N rr D t') := f1
    refine becomeFactor_ok (hrr _ k5) (fun M3 b1 b2 => ?_)
    have pF := pvS_Fr (n := n) (rr := rr) w o9 hrr t' (by omega)
    have fF := (fac_ok (hrr _ k5)).1
    refine multiply_ok pF fF (FR_same f1 (fun j => b2 _ j (by decide))) b1 (fun M4 c1 c2 => ?_)
    refine rest M4 _ (ob_mul_Fr pF fF) c1 (fun k j q1 q2 => by rw [c2 k j q1, b2 k j (by omega)]; exact f2 k j q1 q2) ?_
    show _ = ob addq (ob mulq (pvS n N rr D t') (fac (rr (N - 1 - t')))) (ratQ n D (N - 2 - t'))
    rw [show N - 1 - t' = k + 1 by omega, show N - 2 - t' = k by omega]
