/-! the class's fractions -/
def NOv : Int := -9223372036854775808
def FR (M : Mem) (a : Nat) : Q2 → Prop
  | none => fb M a 2 = true
  | some x => fb M a 2 = false ∧ M a 0 = x.1 ∧ M a 1 = x.2
theorem FR_same {M M' : Mem} {a : Nat} {q : Q2} (h : FR M a q) (e : ∀ j, M' a j = M a j) : FR M' a q := by
  cases q with
  | none => unfold FR at *; rw [fb_eq (e 2)]; exact h
  | some x => unfold FR at *; rw [fb_eq (e 2), e 0, e 1]; exact h
theorem FR_flag {M : Mem} {a : Nat} {q : Q2} (h : FR M a q) : fb M a 2 = q.isNone := by
  cases q with
  | none => exact h
  | some x => exact h.1
theorem product_any {a b : Int} {M : Mem} {Q : Int → Prop} (h : ∀ r, Q r) : wp_X4_product a b M Q := by
  unfold wp_X4_product wp_X4_product_b26 wp_X4_product_b40
  have key : ∀ z : Int, ¬ w64 z = w64 0 → w64 z ≠ 0 ∧ w64 (-z) ≠ 0 := fun z hz => by
    rw [vl_0] at hz
    unfold w64 at *
    omega
  refine ⟨fun _ => h _, fun u => ⟨fun u2 => ⟨fun _ => ⟨fun _ => ⟨(key b u2).1, fun _ => h _, fun _ => h _⟩, fun _ => ⟨(key b u2).2, fun _ => h _, fun _ => h _⟩⟩, fun _ => ⟨fun _ => ⟨(key b u2).1, fun _ => h _, fun _ => h _⟩, fun _ => ⟨(key b u2).2, fun _ => h _, fun _ => h _⟩⟩⟩, fun _ => h _⟩⟩
def inL (z : Int) : Prop := -9223372036854775808 < z ∧ z < 9223372036854775808
theorem w64_in {z : Int} (h : inL z) : w64 z = z := w64_id (by have := h.1; omega) h.2
theorem product_ok {a b : Int} (ha : inL a) (hb : inL b) {M : Mem} {Q : Int → Prop} (h : Q (if fitsL (a * b) then a * b else NOv)) : wp_X4_product a b M Q := by
  have na : inL (-a) := ⟨by have := ha.2; omega, by have := ha.1; omega⟩
  have nb : inL (-b) := ⟨by have := hb.2; omega, by have := hb.1; omega⟩
  unfold wp_X4_product wp_X4_product_b26 wp_X4_product_b40
  rw [vl_0, vl_MX, w64_in ha, w64_in hb, w64_in na, w64_in nb]
  -- sizes
  have key : ∀ x y : Int, 0 < x → 0 < y → x < 9223372036854775808 → y < 9223372036854775808 → (x * y = a * b ∨ x * y = -(a * b)) → (y ≠ 0 ∧ ((x ≤ w64 ((9223372036854775807 : Int).tdiv y)) → Q (a * b)) ∧ (¬ (x ≤ w64 ((9223372036854775807 : Int).tdiv y)) → Q (-9223372036854775808))) := by
    intro x y hx hy hx2 hy2 he
    rw [Int.tdiv_eq_ediv_of_nonneg (by decide)]
    have d1 := Int.ediv_nonneg (a := 9223372036854775807) (b := y) (by decide) (by omega)
    have d2 := Int.ediv_le_self y (show (0 : Int) ≤ 9223372036854775807 by decide)
    rw [w64_id (by omega) (by omega), Int.le_ediv_iff_mul_le hy]
    have hp := Int.mul_pos hx hy
    refine ⟨by omega, fun u => ?_, fun u => ?_⟩
    · rw [if_pos (show fitsL (a * b) = true from decide_eq_true (by omega))] at h
      exact h
    · rw [if_neg (fun z => by have := fitsL_iff.mp z; omega)] at h
      exact h
  refine ⟨fun u => ?_, fun u => ⟨fun u2 => ⟨fun u3 => ⟨fun u4 => key a b (by omega) (by omega) ha.2 hb.2 (Or.inl rfl), fun u4 => key a (-b) (by omega) (by omega) ha.2 nb.2 (Or.inr (Int.mul_neg a b))⟩, fun u3 => ⟨fun u4 => key (-a) b (by omega) (by omega) na.2 hb.2 (Or.inr (Int.neg_mul a b)), fun u4 => key (-a) (-b) (by omega) (by omega) na.2 nb.2 (Or.inl (Int.neg_mul_neg a b))⟩⟩, fun u2 => ?_⟩⟩
  · rw [u, Int.zero_mul, if_pos (by decide)] at h
    exact h
  · rw [show b = 0 by omega, Int.mul_zero, if_pos (by decide)] at h
    exact h
theorem reduce_great {a : Nat} {n d : Int} {M : Mem} {Q : Mem → Prop} (hf : fb M a 2 = true) (h : ∀ M' : Mem, FR M' a none → (∀ k j, k ≠ a → M' k j = M k j) → Q M') : wp_X4_reduce a n d M Q := by
  unfold wp_X4_reduce
  refine ⟨fun _ => ?_, fun z => by rw [hf] at z; cases z⟩
  rintro M31 rfl
  exact h _ (fb_s _ _ _ _) (fun k j hk => st2_n _ _ (fun z => hk z.1))
theorem gcd_fuel {a b : Nat} {k : Nat} (h1 : 0 < a) (h2 : a ≤ b) (h3 : a * b < 2 ^ k) : ∃ k', k = k' + 1 ∧ (b % a) * a < 2 ^ k' ∧ b % a < a := by
  have hm := Nat.mod_lt b h1
  have hd := Nat.div_add_mod b a
  have hq : 1 ≤ b / a := (Nat.le_div_iff_mul_le h1).mpr (by omega)
  have hle : a + b % a ≤ b := by
    have : a * 1 ≤ a * (b / a) := Nat.mul_le_mul_left a hq
    omega
  cases k with
  | zero =>
    have : 1 ≤ a * b := Nat.mul_pos h1 (by omega)
    omega
  | succ k' =>
    refine ⟨k', rfl, ?_, hm⟩
    have e1 : a * (a + b % a) ≤ a * b := Nat.mul_le_mul_left a hle
    rw [Nat.mul_add] at e1
    have e2 : (b % a) * a ≤ a * a := Nat.mul_le_mul_right a (by omega)
    rw [Nat.mul_comm a (b % a)] at e1
    rw [Nat.pow_succ] at h3
    omega
theorem reduce_ok {a : Nat} {n d : Int} {M : Mem} {Q : Mem → Prop} (hf : fb M a 2 = false) (hn : n = NOv ∨ inL n) (hd : d = NOv ∨ (0 < d ∧ d < 9223372036854775808)) (h : ∀ M' : Mem, FR M' a (redq n d) → (∀ k j, k ≠ a → M' k j = M k j) → Q M') : wp_X4_reduce a n d M Q := by
  unfold NOv at hn hd
  have wn : w64 n = n := by
    rcases hn with z | z
    · rw [z]; rfl
    · exact w64_in z
  have wd : w64 d = d := by
    rcases hd with z | z
    · rw [z]; rfl
    · exact w64_id (by omega) (by omega)
  have great : redq n d = none → wp_X4_reduce_b29 a Q M := by
    intro e
    rintro M31 rfl
    rw [e] at h
    exact h _ (fb_s _ _ _ _) (fun k j hk => st2_n _ _ (fun z => hk z.1))
  have nofit : fitsL (-9223372036854775808) = false := by decide
  unfold wp_X4_reduce
  refine ⟨fun z => (by rw [hf] at z; cases z), fun _ => ?_⟩
  rw [wn, wd, vm_NO, vl_0]
  refine ⟨fun u => great (redq_none (Or.inl (by rw [u]; exact nofit))), fun u => ⟨fun u2 => great (redq_none (Or.inr (by rw [u2]; exact nofit))), fun u2 => ⟨fun u3 => ?_, fun u3 => ?_⟩⟩⟩
  case refine_2 => omega
  have hn' : inL n := by
    rcases hn with z | z
    · exact absurd z u
    · exact z
  have hd2 : d < 9223372036854775808 := by omega
  have er := redq_some (n := n) (d := d) (decide_eq_true hn') (decide_eq_true ⟨by omega, hd2⟩)
  rw [er] at h
  have hg := gcI_pos (n := n) u3
  have hgI : gcI n d = ((Nat.gcd n.natAbs d.toNat : Nat) : Int) := by
    unfold gcI
    rw [show d.toNat = d.natAbs by omega]
    rfl
  have n0 := hn'.1
  have n1 := hn'.2
  have fin : ∀ x7 : Int, x7 = gcI n d → x7 < 9223372036854775808 → wp_X4_reduce_b91 a Q M n d x7 := by
    intro x7 e7 hx
    subst e7
    unfold wp_X4_reduce_b91
    rw [vl_0, wn, wd, w64_id (z := gcI n d) (by omega) hx]
    refine ⟨fun z => by omega, fun _ => ⟨by omega, ?_⟩⟩
    rintro M103 rfl
    refine ⟨by omega, ?_⟩
    rintro M111 rfl
    refine h _ ⟨?_, ?_, st2_s _ _ _ _⟩ (fun k j hk => by rw [st2_off _ _ hk, st2_off _ _ hk])
    · rw [fb_n _ _ (by omega), fb_n _ _ (by omega)]; exact hf
    · rw [st2_n _ _ (by omega), st2_s]
  have loop : ∀ s0 : Int, s0 = (n.natAbs : Int) → wp_X4_reduce_b47 a Q M s0 n d := by
    intro s0 hs
    refine ⟨fun x5 x7 x9 => ∃ (A B s k : Nat), x5 = (A : Int) ∧ x7 = (B : Int) ∧ x9 = (s : Int) ∧ 0 < B ∧ A < 9223372036854775808 ∧ B < 9223372036854775808 ∧ Nat.gcd A B = Nat.gcd n.natAbs d.toNat ∧ A * B < 2 ^ k ∧ (A ≤ B → s + k ≤ 128) ∧ s + k ≤ 127 + (if A ≤ B then 1 else 0), fun _ _ x9 => (200 - x9).toNat, ⟨n.natAbs, d.toNat, 0, 126, hs, by omega, rfl, by omega, by omega, by omega, rfl, ?_, fun _ => by omega, by split <;> omega⟩, ?_⟩
    · have a1 : n.natAbs < 2 ^ 63 := by omega
      have a2 : d.toNat < 2 ^ 63 := by omega
      have := Nat.mul_lt_mul'' a1 a2
      rw [show (126 : Nat) = 63 + 63 from rfl, Nat.pow_add]
      exact this
    rintro x5 x7 x9 ⟨A, B, s, k, rfl, rfl, rfl, hB, hA2, hB2, hG, hk, hs1, hs2⟩
    unfold wp_X4_reduce_B55
    dsimp only
    have hs3 : s + k ≤ 128 := by
      split at hs2 <;> omega
    rw [wl_200, w32n (show s < 2147483648 by omega), vl_0, w64_id (z := (A : Int)) (by omega) (by omega), w64_id (z := (B : Int)) (by omega) (by omega)]
    refine ⟨fun v => by omega, fun v => ⟨fun v2 => fin _ ?_ (by omega), fun v2 => ⟨by omega, ?_⟩⟩⟩
    · have : A = 0 := by omega
      subst this
      rw [hgI, ← hG, Nat.gcd_zero_left]
    · have hA : 0 < A := by omega
      have hm := Nat.mod_lt B hA
      rw [Int.tmod_eq_emod_of_nonneg (by omega), ← Int.natCast_emod]
      by_cases q : A ≤ B
      · obtain ⟨k', e1, e2, e3⟩ := gcd_fuel hA q hk
        refine ⟨⟨B % A, A, s + 1, k', rfl, rfl, by omega, hA, by omega, hA2, ?_, e2, fun _ => by omega, by rw [if_pos (by omega)]; have := hs1 q; omega⟩, by omega⟩
        rw [← hG, ← Nat.gcd_rec]
      · have em : B % A = B := Nat.mod_eq_of_lt (by omega)
        rw [if_neg q] at hs2
        refine ⟨⟨B % A, A, s + 1, k, rfl, rfl, by omega, hA, by omega, hA2, ?_, ?_, fun _ => by omega, by rw [if_pos (by omega)]; omega⟩, by omega⟩
        · rw [← hG, ← Nat.gcd_rec]
        · rw [em, Nat.mul_comm]; exact hk
  refine ⟨fun u4 => loop n (by omega), fun u4 => loop (-n) (by omega)⟩
theorem become_ok {a : Nat} {n d : Int} {M : Mem} {Q : Mem → Prop} (hn : inL n) (hd : 0 < d ∧ d < 9223372036854775808) (h : ∀ M' : Mem, FR M' a (redq n d) → (∀ k j, k ≠ a → M' k j = M k j) → Q M') : wp_X4_become a n d M Q := by
  rintro M2 rfl
  refine reduce_ok (fb_s _ _ _ _) (Or.inr hn) (Or.inr hd) (fun M' h1 h2 => h M' h1 (fun k j hk => by rw [h2 k j hk, st2_off _ _ hk]))
theorem become_int_ok {a : Nat} {n : Int} {M : Mem} {Q : Mem → Prop} (hn : inL n) (h : ∀ M' : Mem, FR M' a (some (n, 1)) → (∀ k j, k ≠ a → M' k j = M k j) → Q M') : wp_X4_become a n 1 M Q :=
  become_ok hn ⟨by decide, by decide⟩ (fun M' h1 h2 => h M' (by rw [redq_int hn] at h1; exact h1) h2)
theorem becomeF_ok {a c : Nat} {q : Q2} {M : Mem} {Q : Mem → Prop} (e : c ≠ a) (hq : FR M c q) (h : ∀ M' : Mem, FR M' a q → (∀ k j, k ≠ a → M' k j = M k j) → Q M') : wp_X4_become_ a c M Q := by
  unfold wp_X4_become_
  rintro M5 rfl M13 rfl M21 rfl
  rw [st2_n M _ (show ¬ (c = a ∧ 1 = 0) by omega), fb_n _ _ (by omega), fb_n _ _ (by omega)]
  refine h _ ?_ (fun k j hk => by rw [st2_off _ _ hk, st2_off _ _ hk, st2_off _ _ hk])
  have hf := FR_flag hq
  cases q with
  | none => show fb _ _ _ = _; rw [hf]; exact fb_s _ _ _ _
  | some x =>
    refine ⟨by rw [hf]; exact fb_s _ _ _ _, ?_, ?_⟩
    · rw [st2_n _ _ (by omega), st2_n _ _ (by omega), st2_s]; exact hq.2.1
    · rw [st2_n _ _ (by omega), st2_s]; exact hq.2.2
theorem Fr_in {x : Int × Int} (h : Fr x) : inL x.1 ∧ inL x.2 ∧ 0 < x.2 := ⟨⟨h.2.2.1, h.2.2.2.1⟩, ⟨by have := h.1; omega, h.2.1⟩, h.1⟩
theorem fits_or (z : Int) : (if fitsL z then z else NOv) = NOv ∨ inL (if fitsL z then z else NOv) := by
  by_cases q : fitsL z = true
  · rw [if_pos q]; exact Or.inr (fitsL_iff.mp q)
  · rw [if_neg q]; exact Or.inl rfl
theorem fits_or_pos {z : Int} (hz : 0 < z) : (if fitsL z then z else NOv) = NOv ∨ (0 < (if fitsL z then z else NOv) ∧ (if fitsL z then z else NOv) < 9223372036854775808) := by
  by_cases q : fitsL z = true
  · rw [if_pos q]; exact Or.inr ⟨hz, (fitsL_iff.mp q).2⟩
  · rw [if_neg q]; exact Or.inl rfl
theorem redq_fits (n d : Int) : redq (if fitsL n then n else NOv) (if fitsL d then d else NOv) = if fitsL n && fitsL d then redq n d else none := by
  have nofit : fitsL NOv = false := by decide
  by_cases q1 : fitsL n = true
  · by_cases q2 : fitsL d = true
    · rw [if_pos q1, if_pos q2, q1, q2]; rfl
    · rw [if_pos q1, if_neg q2, redq_none (Or.inr nofit), q1]
      simp [q2]
  · rw [if_neg q1, redq_none (Or.inl nofit)]
    simp [q1]
/-- a product's end in the class: what is there is brought to lowest terms, or GREAT -/
theorem mulEnd {a : Nat} {x y : Int × Int} (hx : inL x.1 ∧ inL x.2) (hy : inL y.1 ∧ inL y.2) (hp : 0 < x.2 * y.2) {M : Mem} (hf : fb M a 2 = false) {Q : Mem → Prop} (h : ∀ M' : Mem, FR M' a (mulq x y) → (∀ k j, k ≠ a → M' k j = M k j) → Q M') : wp_X4_product x.1 y.1 M (fun r32 => wp_X4_product x.2 y.2 M (fun r43 => wp_X4_reduce a r32 r43 M Q)) := by
  refine product_ok hx.1 hy.1 (product_ok hx.2 hy.2 (reduce_ok hf (fits_or _) (fits_or_pos hp) (fun M' h1 h2 => h M' ?_ h2)))
  rw [redq_fits] at h1
  exact h1
theorem mulGreat {a : Nat} {p q r s : Int} {M : Mem} (hf : fb M a 2 = true) {Q : Mem → Prop} (h : ∀ M' : Mem, FR M' a none → (∀ k j, k ≠ a → M' k j = M k j) → Q M') : wp_X4_product p q M (fun r32 => wp_X4_product r s M (fun r43 => wp_X4_reduce a r32 r43 M Q)) :=
  product_any fun _ => product_any fun _ => reduce_great hf h
theorem multiply_ok {a c : Nat} {p q : Q2} {M : Mem} {Q : Mem → Prop} (hp : FrO p) (hq : FrO q) (ha : FR M a p) (hc : FR M c q) (h : ∀ M' : Mem, FR M' a (ob mulq p q) → (∀ k j, k ≠ a → M' k j = M k j) → Q M') : wp_X4_multiply a c M Q := by
  unfold wp_X4_multiply wp_X4_multiply_b15 wp_X4_multiply_b20
  have fa := FR_flag ha
  have fc := FR_flag hc
  have great : ob mulq p q = none → ∀ M20 : Mem, M20 = st2 M a 2 (bz true) → wp_X4_product (M20 a 0) (M20 c 0) M20 (fun r32 => wp_X4_product (M20 a 1) (M20 c 1) M20 (fun r43 => wp_X4_reduce a r32 r43 M20 (fun M46 => Q M46))) := by
    rintro e M20 rfl
    rw [e] at h
    exact mulGreat (fb_s _ _ _ _) (fun M' h1 h2 => h M' h1 (fun k j hk => by rw [h2 k j hk, st2_off _ _ hk]))
  rw [fa, fc]
  cases p with
  | none => exact ⟨fun _ => great rfl, fun z => by cases z⟩
  | some x =>
    cases q with
    | none => exact ⟨fun z => (by cases z), fun _ => ⟨fun z => (by cases z), fun _ => great rfl⟩⟩
    | some y =>
      refine ⟨fun z => (by cases z), fun _ => ⟨fun _ => ?_, fun z => (by cases z)⟩⟩
      rintro M20 rfl
      obtain ⟨x1, x2, x3⟩ := Fr_in (hp x rfl)
      obtain ⟨y1, y2, y3⟩ := Fr_in (hq y rfl)
      have e0 : ∀ k j, j ≠ 2 → st2 M a 2 (bz false) k j = M k j := fun k j hj => st2_n _ _ (fun z => hj z.2)
      rw [e0 a 0 (by decide), e0 c 0 (by decide), e0 a 1 (by decide), e0 c 1 (by decide), ha.2.1, ha.2.2, hc.2.1, hc.2.2]
      exact mulEnd ⟨x1, x2⟩ ⟨y1, y2⟩ (Int.mul_pos x3 y3) (fb_s _ _ _ _) (fun M' h1 h2 => h M' h1 (fun k j hk => by rw [h2 k j hk, st2_off _ _ hk]))
theorem sum_ok {a b : Int} (ha : inL a) (hb : inL b) {M : Mem} {Q : Int → Prop} (h : ∀ r, (r = if fitsL (a + b) then a + b else NOv) → Q r) : wp_X4_sum a b M Q := by
  have a1 := ha.1
  have a2 := ha.2
  have b1 := hb.1
  have b2 := hb.2
  have no : ¬ fitsL (a + b) = true → Q (-9223372036854775808) := fun z => h _ (by rw [if_neg z]; rfl)
  have yes : fitsL (a + b) = true → Q (a + b) := fun z => h _ (by rw [if_pos z])
  unfold wp_X4_sum wp_X4_sum_b24 wp_X4_sum_b43 wp_X4_sum_b47 wp_X4_sum_b48
  rw [vl_0, w64_in ha, w64_in hb]
  have wab : (w64 (a + b) < 0 ↔ (a + b < 0 ∧ -9223372036854775808 ≤ a + b) ∨ 9223372036854775808 ≤ a + b) := by
    unfold w64
    omega
  -- where the sum is just the least long, the class answers that long itself, which is NO
  have mid : (-9223372036854775808 ≤ a + b ∧ a + b < 9223372036854775808) → Q (a + b) := by
    intro z
    by_cases q : a + b = -9223372036854775808
    · rw [q]
      exact no (fun w => by have := fitsL_iff.mp w; omega)
    · exact yes (decide_eq_true ⟨by omega, z.2⟩)
  have nf : ¬ (-9223372036854775808 ≤ a + b ∧ a + b < 9223372036854775808) → Q (-9223372036854775808) := fun z => no (fun w => by have := fitsL_iff.mp w; omega)
  refine ⟨fun u => ⟨fun u2 => ⟨fun _ => mid (by omega), fun z => (by cases z)⟩, fun u2 => ⟨fun u3 => ⟨fun _ => mid (by omega), fun z => (by cases z)⟩, fun u3 => ⟨fun u4 => ⟨fun _ => mid (by omega), fun z => (by cases z)⟩, fun u4 => ⟨fun z => (by cases z), fun _ => nf (by omega)⟩⟩⟩⟩, fun u => ⟨fun u2 => ⟨fun u3 => ⟨fun _ => mid (by omega), fun z => (by cases z)⟩, fun u3 => ⟨fun u4 => ⟨fun _ => mid (by omega), fun z => (by cases z)⟩, fun u4 => ⟨fun u5 => ⟨fun _ => mid (by omega), fun z => (by cases z)⟩, fun u5 => ⟨fun z => (by cases z), fun _ => nf (by omega)⟩⟩⟩⟩, fun u2 => ⟨fun u3 => ⟨fun z => (by cases z), fun _ => nf (by omega)⟩, fun u3 => ⟨fun u4 => ⟨fun _ => mid (by omega), fun z => (by cases z)⟩, fun u4 => by omega⟩⟩⟩⟩
theorem add_ok {a c : Nat} {p q : Q2} {M : Mem} {Q : Mem → Prop} (hp : FrO p) (hq : FrO q) (ha : FR M a p) (hc : FR M c q) (h : ∀ M' : Mem, FR M' a (ob addq p q) → (∀ k j, k ≠ a → M' k j = M k j) → Q M') : wp_X4_add a c M Q := by
  unfold wp_X4_add wp_X4_add_b15
  have fa := FR_flag ha
  have fc := FR_flag hc
  have end87 : ∀ M1 : Mem, (∀ k j, k ≠ a → M1 k j = M k j) → ob addq p q = none → ∀ M89 : Mem, M89 = st2 M1 a 2 (bz true) → Q M89 := by
    rintro M1 hM1 e M89 rfl
    rw [e] at h
    exact h _ (fb_s _ _ _ _) (fun k j hk => by rw [st2_off _ _ hk]; exact hM1 k j hk)
  have great : ob addq p q = none → wp_X4_add_b20 a c Q M true := by
    intro e
    unfold wp_X4_add_b20 wp_X4_add_b87
    rintro M20 rfl
    have e8 := end87 (st2 M a 2 (bz true)) (fun k j hk => st2_off _ _ hk ▸ rfl) e
    rw [e] at h
    refine product_any fun r31 => product_any fun r43 => product_any fun r56 => ⟨fun _ => e8, fun _ => ⟨fun _ => e8, fun _ => ⟨fun _ => ?_, fun _ => e8⟩⟩⟩
    have rg : ∀ r, wp_X4_reduce a r r56 (st2 M a 2 (bz true)) (fun M104 => Q M104) := fun r => reduce_great (fb_s _ _ _ _) (fun M' h1 h2 => h M' h1 (fun k j hk => by rw [h2 k j hk, st2_off _ _ hk]))
    unfold wp_X4_sum wp_X4_sum_b24 wp_X4_sum_b43 wp_X4_sum_b47 wp_X4_sum_b48
    refine ⟨fun _ => ⟨fun _ => ⟨fun _ => rg _, fun _ => rg _⟩, fun _ => ⟨fun _ => ⟨fun _ => rg _, fun _ => rg _⟩, fun _ => ⟨fun _ => ⟨fun _ => rg _, fun _ => rg _⟩, fun _ => ⟨fun _ => rg _, fun _ => rg _⟩⟩⟩⟩, fun _ => ⟨fun _ => ⟨fun _ => ⟨fun _ => rg _, fun _ => rg _⟩, fun _ => ⟨fun _ => ⟨fun _ => rg _, fun _ => rg _⟩, fun _ => ⟨fun _ => ⟨fun _ => rg _, fun _ => rg _⟩, fun _ => ⟨fun _ => rg _, fun _ => rg _⟩⟩⟩⟩, fun _ => ⟨fun _ => ⟨fun _ => rg _, fun _ => rg _⟩, fun _ => ⟨fun _ => ⟨fun _ => rg _, fun _ => rg _⟩, fun _ => ⟨fun _ => ⟨fun _ => rg _, fun _ => rg _⟩, fun _ => ⟨fun _ => ⟨fun _ => rg _, fun _ => rg _⟩, fun _ => ⟨fun _ => rg _, fun _ => rg _⟩⟩⟩⟩⟩⟩⟩
  rw [fa, fc]
  cases p with
  | none => exact ⟨fun _ => great rfl, fun z => by cases z⟩
  | some x =>
    cases q with
    | none => exact ⟨fun z => (by cases z), fun _ => ⟨fun z => (by cases z), fun _ => great rfl⟩⟩
    | some y =>
      refine ⟨fun z => (by cases z), fun _ => ⟨fun _ => ?_, fun z => (by cases z)⟩⟩
      unfold wp_X4_add_b20 wp_X4_add_b87
      rintro M20 rfl
      obtain ⟨x1, x2, x3⟩ := Fr_in (hp x rfl)
      obtain ⟨y1, y2, y3⟩ := Fr_in (hq y rfl)
      have e0 : ∀ k j, j ≠ 2 → st2 M a 2 (bz false) k j = M k j := fun k j hj => st2_n _ _ (fun z => hj z.2)
      have e8 := end87 (st2 M a 2 (bz false)) (fun k j hk => st2_off _ _ hk ▸ rfl)
      have hf0 : fb (st2 M a 2 (bz false)) a 2 = false := fb_s _ _ _ _
      have hk0 : ∀ k j, k ≠ a → st2 M a 2 (bz false) k j = M k j := fun k j hk => by rw [st2_off _ _ hk]
      rw [e0 a 0 (by decide), e0 c 0 (by decide), e0 a 1 (by decide), e0 c 1 (by decide), ha.2.1, ha.2.2, hc.2.1, hc.2.2]
      generalize st2 M a 2 (bz false) = M1 at *
      have eA : ob addq (some x) (some y) = if fitsL (x.1 * y.2) && fitsL (y.1 * x.2) && fitsL (x.2 * y.2) then redq (x.1 * y.2 + y.1 * x.2) (x.2 * y.2) else none := rfl
      refine product_ok x1 y2 (product_ok y1 x2 (product_ok x2 y2 ?_))
      rw [vm_NO]
      have wNO : ∀ z, fitsL z = true → ¬ w64 z = -9223372036854775808 := fun z hz => by
        have := fitsL_iff.mp hz
        rw [w64_in this]
        omega
      by_cases q1 : fitsL (x.1 * y.2) = true
      · by_cases q2 : fitsL (y.1 * x.2) = true
        · by_cases q3 : fitsL (x.2 * y.2) = true
          · rw [if_pos q1, if_pos q2, if_pos q3]
            rw [q1, q2, q3] at eA
            have i1 := fitsL_iff.mp q1
            have i2 := fitsL_iff.mp q2
            have i3 := fitsL_iff.mp q3
            refine ⟨fun z => absurd z (wNO _ q1), fun _ => ⟨fun z => absurd z (wNO _ q2), fun _ => ⟨fun _ => ?_, fun z => absurd (wNO _ q3) z⟩⟩⟩
            refine sum_ok i1 i2 (fun r hr => ?_)
            have hr' := fits_or (x.1 * y.2 + y.1 * x.2)
            rw [← hr] at hr'
            refine reduce_ok hf0 hr' (Or.inr ⟨Int.mul_pos x3 y3, i3.2⟩) (fun M' h1 h2 => h M' ?_ (fun k j hk => by rw [h2 k j hk, hk0 k j hk]))
            rw [eA]
            have er := redq_fits (x.1 * y.2 + y.1 * x.2) (x.2 * y.2)
            rw [if_pos q3, q3, Bool.and_true, ← hr] at er
            rw [er] at h1
            by_cases q4 : fitsL (x.1 * y.2 + y.1 * x.2) = true
            · rw [if_pos q4] at h1; exact h1
            · rw [if_neg q4] at h1
              rw [redq_none (n := x.1 * y.2 + y.1 * x.2) (Or.inl (by simpa using q4))]
              exact h1
          · rw [if_neg q3]
            have e : ob addq (some x) (some y) = none := by rw [eA]; simp [q3]
            have e8 := e8 e
            refine ⟨fun _ => e8, fun _ => ⟨fun _ => e8, fun _ => ⟨fun z => absurd (show w64 NOv = -9223372036854775808 from rfl) z, fun _ => e8⟩⟩⟩
        · rw [if_neg q2]
          have e : ob addq (some x) (some y) = none := by rw [eA]; simp [q2]
          have e8 := e8 e
          refine ⟨fun _ => e8, fun _ => ⟨fun _ => e8, fun z => absurd (show w64 NOv = -9223372036854775808 from rfl) z⟩⟩
      · rw [if_neg q1]
        have e : ob addq (some x) (some y) = none := by rw [eA]; simp [q1]
        have e8 := e8 e
        refine ⟨fun _ => e8, fun z => absurd (show w64 NOv = -9223372036854775808 from rfl) z⟩
theorem divide_ok {a c : Nat} (hac : c ≠ a) {p q : Q2} {M : Mem} {Q : Mem → Prop} (hp : FrO p) (hq : FrO q) (hnz : ∀ y, q = some y → y.1 ≠ 0) (ha : FR M a p) (hc : FR M c q) (h : ∀ M' : Mem, FR M' a (ob divq p q) → (∀ k j, k ≠ a → M' k j = M k j) → Q M') : wp_X4_divide a c M Q := by
  unfold wp_X4_divide wp_X4_divide_b24 wp_X4_divide_b29 wp_X4_divide_b46
  have fa := FR_flag ha
  have fc := FR_flag hc
  have great : ob divq p q = none → ∀ M29 : Mem, M29 = st2 M a 2 (bz true) → (((w64 0 ≤ w64 (M29 c 0)) → (wp_X4_product (M29 a 0) ((w32 1) * (M29 c 1)) M29 (fun r59 => wp_X4_product (M29 a 1) ((w32 1) * (M29 c 0)) M29 (fun r73 => wp_X4_reduce a r59 r73 M29 (fun M76 => Q M76))))) ∧ (¬ (w64 0 ≤ w64 (M29 c 0)) → (wp_X4_product (M29 a 0) ((w32 (-1)) * (M29 c 1)) M29 (fun r59 => wp_X4_product (M29 a 1) ((w32 (-1)) * (M29 c 0)) M29 (fun r73 => wp_X4_reduce a r59 r73 M29 (fun M76 => Q M76)))))) := by
    rintro e M29 rfl
    rw [e] at h
    exact ⟨fun _ => mulGreat (fb_s _ _ _ _) (fun M' h1 h2 => h M' h1 (fun k j hk => by rw [h2 k j hk, st2_off _ _ hk])), fun _ => mulGreat (fb_s _ _ _ _) (fun M' h1 h2 => h M' h1 (fun k j hk => by rw [h2 k j hk, st2_off _ _ hk]))⟩
  rw [fa, fc]
  cases p with
  | none => exact ⟨fun _ => great rfl, fun z => by cases z⟩
  | some x =>
    cases q with
    | none => exact ⟨fun z => (by cases z), fun _ => ⟨fun _ => great rfl, fun z => (by cases z)⟩⟩
    | some y =>
      have y0 := hnz y rfl
      obtain ⟨x1, x2, x3⟩ := Fr_in (hp x rfl)
      obtain ⟨y1, y2, y3⟩ := Fr_in (hq y rfl)
      have ny1 : inL (-y.1) := ⟨by have := y1.2; omega, by have := y1.1; omega⟩
      have ny2 : inL (-y.2) := ⟨by have := y2.2; omega, by have := y2.1; omega⟩
      refine ⟨fun z => (by cases z), fun _ => ⟨fun z => (by cases z), fun _ => ?_⟩⟩
      rw [hc.2.1, vl_0, w64_in y1]
      refine ⟨fun _ => ?_, fun z => absurd y0 z⟩
      rintro M29 rfl
      have e0 : ∀ k j, j ≠ 2 → st2 M a 2 (bz false) k j = M k j := fun k j hj => st2_n _ _ (fun z => hj z.2)
      rw [e0 a 0 (by decide), e0 c 0 (by decide), e0 a 1 (by decide), e0 c 1 (by decide), ha.2.1, ha.2.2, hc.2.1, hc.2.2, w64_in y1, wl_1, wm_1, Int.one_mul, Int.one_mul, Int.neg_one_mul, Int.neg_one_mul]
      have eD : ob divq (some x) (some y) = if y.1 < 0 then mulq x (-y.2, -y.1) else mulq x (y.2, y.1) := rfl
      refine ⟨fun u => ?_, fun u => ?_⟩
      · rw [if_neg (by omega)] at eD
        exact mulEnd (y := (y.2, y.1)) ⟨x1, x2⟩ ⟨y2, y1⟩ (Int.mul_pos x3 (by dsimp only; omega)) (fb_s _ _ _ _) (fun M' h1 h2 => h M' (by rw [eD]; exact h1) (fun k j hk => by rw [h2 k j hk, st2_off _ _ hk]))
      · rw [if_pos (by omega)] at eD
        exact mulEnd (y := (-y.2, -y.1)) ⟨x1, x2⟩ ⟨ny2, ny1⟩ (Int.mul_pos x3 (by dsimp only; omega)) (fb_s _ _ _ _) (fun M' h1 h2 => h M' (by rw [eD]; exact h1) (fun k j hk => by rw [h2 k j hk, st2_off _ _ hk]))
theorem negate_ok {a : Nat} {p : Q2} {M : Mem} {Q : Mem → Prop} (ha : FR M a p) (h : ∀ M' : Mem, FR M' a (p.map negq) → (∀ k j, k ≠ a → M' k j = M k j) → Q M') : wp_X4_negate a M Q := by
  rintro M6 rfl
  refine h _ ?_ (fun k j hk => by rw [st2_off _ _ hk])
  cases p with
  | none => show fb _ _ _ = _; rw [fb_n _ _ (by omega)]; exact ha
  | some x =>
    refine ⟨by rw [fb_n _ _ (by omega)]; exact ha.1, ?_, ?_⟩
    · rw [st2_s, ha.2.1]; rfl
    · rw [st2_n _ _ (by omega)]; exact ha.2.2
def partq : Q2 → Int → Int
  | none, _ => NOv
  | some x, p => if p = 0 then x.1 else x.2
theorem part_ok {a : Nat} {q : Q2} {z : Int} {M : Mem} {Q : Int → Prop} (hz : R32 z) (ha : FR M a q) (h : Q (partq q z)) : wp_X4_part a z M Q := by
  unfold wp_X4_part
  rw [w32_R hz]
  cases q with
  | none => exact ⟨fun y => (by rw [show fb M a 2 = true from ha] at y; cases y), fun _ => h⟩
  | some x =>
    have h : Q (if z = 0 then x.1 else x.2) := h
    refine ⟨fun _ => ⟨fun u => ?_, fun u => ?_⟩, fun y => (by rw [ha.1] at y; cases y)⟩
    · rw [ha.2.2]; rw [if_neg u] at h; exact h
    · rw [ha.2.1]; rw [if_pos (by omega)] at h; exact h
