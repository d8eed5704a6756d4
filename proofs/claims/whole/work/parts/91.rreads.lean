/-! what the reference reads of its dictionary -/
def RAq (M : Mem) (q : Q2) : Prop := ∃ x, q = some x ∧ M 189 9 = x.1 ∧ M 189 10 = x.2
/-- off the fraction at hand -/
def FrA (M M' : Mem) : Prop := ∀ k c, ¬ (k = 189 ∧ (c = 9 ∨ c = 10)) → M' k c = M k c
theorem FrA_F {M M' : Mem} (h : FrA M M') : FrF M M' := fun k c q => h k c (by omega)
theorem FrA_zero (M : Mem) : RAq (st2 (st2 M 189 9 0) 189 10 1) (some (0, 1)) ∧ FrA M (st2 (st2 M 189 9 0) 189 10 1) :=
  ⟨⟨_, rfl, by rw [st2_n _ _ (by omega), st2_s], st2_s _ _ _ _⟩, fun k c q => by rw [st2_n _ _ (by omega), st2_n _ _ (by omega)]⟩
theorem FrA_set {M : Mem} {x : Int × Int} {u v : Int} (hu : u = x.1) (hv : v = x.2) : RAq (st2 (st2 M 189 9 u) 189 10 v) (some x) ∧ FrA M (st2 (st2 M 189 9 u) 189 10 v) :=
  ⟨⟨_, rfl, by rw [st2_n _ _ (by omega), st2_s]; exact hu, by rw [st2_s]; exact hv⟩, fun k c q => by rw [st2_n _ _ (by omega), st2_n _ _ (by omega)]⟩
theorem FrA_trans {M M2 M3 : Mem} (h : FrA M M2) (h2 : FrA M2 M3) : FrA M M3 := fun k c q => (h2 k c q).trans (h k c q)
theorem rbare_ok {n H : Nat} {on : Nat → Bool} {key : Nat → Nat} (K : KeyOK n H on key) {D : QD} (N : NumQ n on D) {M : Mem} (hM : DicR n H key M D) {v : Int} (hv : R32 v) {Q : Mem → Prop} (h : ∀ (M' : Mem) (q : Q2), (∀ v' : Nat, v = (v' : Int) → IsAmt on D v' q) → RAq M' q → FrA M M' → Q M') : wp_X12_bare 189 v M Q := by
  obtain ⟨k1, k2, k3, k4, k5, k6⟩ := id K
  obtain ⟨m1, m2, m3, m4, m5⟩ := hM
  unfold wp_X12_bare
  rintro M2 rfl M7 rfl
  obtain ⟨z1, z2⟩ := FrA_zero M
  refine ⟨fun M' x2 => ∃ (k : Nat) (q : Q2), x2 = (k : Int) ∧ k ≤ H ∧ RAq M' q ∧ FrA M M' ∧ ((∃ i, i < k ∧ (D.num (key i) : Int) = v ∧ q = D.B (key i)) ∨ (q = some (0, 1) ∧ ∀ i, i < k → (D.num (key i) : Int) ≠ v)), fun _ x2 => ((H : Int) - x2).toNat, ⟨0, _, rfl, Nat.zero_le _, z1, z2, Or.inr ⟨rfl, fun _ q => absurd q (Nat.not_lt_zero _)⟩⟩, ?_⟩
  rintro M3 x2 ⟨k, q, rfl, hk, f1, f2, f3⟩
  unfold wp_X12_bare_B12 wp_X12_bare_b50
  dsimp only
  have μk : k < H → ((H : Int) - ((k : Int) + 1)).toNat < ((H : Int) - (k : Int)).toNat := fun z => by clear f3; omega
  rw [f2 189 11 (by omega), m2, w32n (show k < 2147483648 by clear f3; omega), w32n (show H < 2147483648 by clear f3; omega), ixn (show k < 2147483648 by clear f3; omega), rt_189.1, rt_189.2.2.1, rt_189.2.2.2.1, w32_R hv]
  refine ⟨fun u => ?_, fun u => ⟨inbn LN_196 (by clear f3; omega), ?_⟩⟩
  · have : k = H := by clear f3; omega
    subst this
    refine h M3 q (fun v' e => IsAmt_rows K ?_) f1 f2
    subst e
    rcases f3 with ⟨i, i1, i2, i3⟩ | ⟨e, f⟩
    · exact Or.inl ⟨i, i1, Int.ofNat.inj i2, i3⟩
    · exact Or.inr ⟨e, fun i hi z => f i hi (by rw [z])⟩
  have kH : k < H := by clear f3; omega
  have nk := N.1 _ (k3 k kH).1 (k3 k kH).2
  rw [f2 196 k (by omega), (m3 k kH).1, w32n (show D.num (key k) < 2147483648 by clear f3; omega)]
  refine ⟨fun z => ⟨⟨k + 1, q, rfl, kH, f1, f2, ?_⟩, μk kH⟩, fun z => ⟨inbn LN_198 (by clear f3; omega), ?_⟩⟩
  · rcases f3 with ⟨i, i1, i2⟩ | ⟨e, f⟩
    · exact Or.inl ⟨i, by omega, i2⟩
    · refine Or.inr ⟨e, fun i hi => ?_⟩
      rcases Nat.lt_or_ge i k with y | y
      · exact f i y
      · rw [show i = k by omega]
        exact z
  · clear f3
    rintro M4 rfl
    refine ⟨inbn LN_199 (by omega), ?_⟩
    rintro M5 rfl
    obtain ⟨x, xe, x1, xx⟩ := (m3 k kH).2.1
    have e1 : M3 198 k = x.1 := by rw [f2 198 k (by omega)]; exact x1
    have e2 : st2 M3 189 9 (M3 198 k) 199 k = x.2 := by rw [st2_n _ _ (by omega), f2 199 k (by omega)]; exact xx
    obtain ⟨g1, g2⟩ := FrA_set (M := M3) e1 e2
    exact ⟨⟨k + 1, _, rfl, kH, g1, FrA_trans f2 g2, Or.inl ⟨k, by omega, by omega, xe.symm⟩⟩, μk kH⟩
theorem rprice_ok {n H : Nat} {on : Nat → Bool} {key : Nat → Nat} (K : KeyOK n H on key) {D : QD} (N : NumQ n on D) {M : Mem} (hM : DicR n H key M D) {v : Nat} (hv : v < 99) {Q : Mem → Prop} (h : ∀ M' : Mem, RAq M' (prUp D v n) → FrA M M' → Q M') : wp_X12_price 189 (v : Int) M Q := by
  obtain ⟨k1, k2, k3, k4, k5, k6⟩ := id K
  obtain ⟨m1, m2, m3, m4, m5⟩ := hM
  unfold wp_X12_price
  rintro M2 rfl M7 rfl
  obtain ⟨z1, z2⟩ := FrA_zero M
  refine ⟨fun M' x2 => ∃ k : Nat, x2 = (k : Int) ∧ k ≤ n ∧ RAq M' (prUp D v k) ∧ FrA M M', fun _ x2 => ((n : Int) - x2).toNat, ⟨0, rfl, Nat.zero_le _, z1, z2⟩, ?_⟩
  rintro M3 x2 ⟨k, rfl, hk, f1, f2⟩
  unfold wp_X12_price_B12 wp_X12_price_b56
  dsimp only
  rw [f2 189 3 (by omega), m1, w32n (show k < 2147483648 by omega), w32n (show n < 2147483648 by omega), ixn (show k < 2147483648 by omega), rt_189.2.1, rt_189.2.2.2.2.1, rt_189.2.2.2.2.2.1, w32n (show v < 2147483648 by omega)]
  refine ⟨fun u => ?_, fun u => ⟨inbn LN_197 (by omega), ?_⟩⟩
  · have : k = n := by omega
    subst this
    exact h M3 f1 f2
  have kn : k < n := by omega
  have sk := N.2.2.1 k kn
  have e45 : (45 : Int) + (k : Int) = ((5 * 9 + k : Nat) : Int) := by omega
  rw [f2 197 k (by omega), m5 k kn, w32n (show D.so k < 2147483648 by omega), e45, ixn (show 5 * 9 + k < 2147483648 by omega)]
  have e : prUp D v (k + 1) = if D.so k = v then D.S 9 k else prUp D v k := rfl
  refine ⟨fun z => ⟨⟨k + 1, rfl, kn, by rw [e, if_neg (fun w => z (by rw [w]))]; exact f1, f2⟩, by omega⟩, fun z => ⟨inbn LN_200 (by omega), ?_⟩⟩
  rintro M4 rfl
  refine ⟨inbn LN_201 (by omega), ?_⟩
  rintro M5 rfl
  obtain ⟨x, xe, x1, xx⟩ := m4.2 k kn
  have e1 : M3 200 (5 * 9 + k) = x.1 := by rw [f2 200 _ (by omega)]; exact x1
  have e2 : st2 M3 189 9 (M3 200 (5 * 9 + k)) 201 (5 * 9 + k) = x.2 := by rw [st2_n _ _ (by omega), f2 201 _ (by omega)]; exact xx
  obtain ⟨g1, g2⟩ := FrA_set (M := M3) e1 e2
  refine ⟨⟨k + 1, rfl, kn, ?_, FrA_trans f2 g2⟩, by omega⟩
  rw [e, if_pos (by omega), xe]
  exact g1
