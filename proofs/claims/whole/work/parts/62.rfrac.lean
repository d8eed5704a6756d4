/-! the reference's fractions -/
def RF (M : Mem) : Q2 → Prop
  | none => fb M 189 8 = true
  | some x => fb M 189 8 = false ∧ M 189 9 = x.1 ∧ M 189 10 = x.2
def FrF (M M' : Mem) : Prop := ∀ k j, ¬ (k = 189 ∧ 8 ≤ j ∧ j ≤ 10) → M' k j = M k j
theorem FrF_refl (M : Mem) : FrF M M := fun _ _ _ => rfl
theorem FrF_trans {M M2 M3 : Mem} (h : FrF M M2) (h2 : FrF M2 M3) : FrF M M3 := fun k j q => (h2 k j q).trans (h k j q)
theorem RF_flag {M : Mem} {q : Q2} (h : RF M q) : fb M 189 8 = q.isNone := by
  cases q with
  | none => exact h
  | some x => exact h.1
/-- only the flag may change, and only to GREAT -/
def FrT (M M' : Mem) : Prop := (∀ k j, ¬ (k = 189 ∧ j = 8) → M' k j = M k j) ∧ (fb M 189 8 = true → fb M' 189 8 = true)
theorem FrT_F {M M' : Mem} (h : FrT M M') : FrF M M' := fun k j q => h.1 k j (fun z => q ⟨z.1, by omega⟩)
theorem times_any {a b : Int} {M : Mem} {Q : Int → Mem → Prop} (h : ∀ (r : Int) (M' : Mem), FrT M M' → Q r M') : wp_X12_times 189 a b M Q := by
  have t1 : FrT M M := ⟨fun _ _ _ => rfl, fun z => z⟩
  have t2 : FrT M (st2 M 189 8 (bz true)) := ⟨fun k j q => st2_n _ _ q, fun _ => fb_s _ _ _ _⟩
  unfold wp_X12_times wp_X12_times_b20 wp_X12_times_b29
  have b20 : ∀ r, (((¬ w64 r = w64 (-9223372036854775808)) → Q r M) ∧ (¬ (¬ w64 r = w64 (-9223372036854775808)) → ∀ M31 : Mem, M31 = st2 M 189 8 (bz true) → Q r M31)) := fun r => ⟨fun _ => h _ M t1, fun _ M31 e => by subst e; exact h _ _ t2⟩
  refine ⟨fun _ => b20 _, fun u => ⟨u, fun _ M31 e => by subst e; exact h _ _ t2, fun _ => b20 _⟩⟩
theorem mul_wrap {a b p : Int} (ha : inL a) (ha0 : a ≠ 0) (hb : inL b) (hp : -9223372036854775808 ≤ p ∧ p < 9223372036854775808) (k : Int) (hk : a * b = p + 18446744073709551616 * k) : w64 (p.tdiv a) = b ↔ k = 0 := by
  have a1 := ha.1
  have a2 := ha.2
  have b1 := hb.1
  have b2 := hb.2
  constructor
  · intro h
    -- then p is a times b but for less than a
    have e := Int.mul_tdiv_add_tmod p a
    have hr : -(9223372036854775808 : Int) < p.tmod a ∧ p.tmod a < 9223372036854775808 := by
      have l1 := Int.tmod_lt_of_pos (a := p) (b := a)
      have : (p.tmod a).natAbs < a.natAbs := by
        rw [Int.natAbs_tmod]
        exact Nat.mod_lt _ (by omega)
      omega
    have hq : p.tdiv a = b ∨ p.tdiv a = 9223372036854775808 := by
      have hb3 : -(9223372036854775809 : Int) < p.tdiv a ∧ p.tdiv a < 9223372036854775809 := by
        have : (p.tdiv a).natAbs ≤ p.natAbs := by
          rw [Int.natAbs_tdiv]
          exact Nat.div_le_self _ _
        omega
      unfold w64 at h
      omega
    rcases hq with q | q
    · rw [q] at e
      omega
    · rw [q] at h
      have : b = -9223372036854775808 := by rw [← h]; rfl
      omega
  · intro h
    subst h
    rw [Int.mul_zero, Int.add_zero] at hk
    rw [← hk, Int.mul_tdiv_cancel_left _ ha0, w64_in hb]
theorem times_ok {a b : Int} (ha : inL a) (hb : inL b) {M : Mem} {Q : Int → Mem → Prop} (h1 : fitsL (a * b) = true → Q (a * b) M) (h2 : fitsL (a * b) = false → ∀ M' : Mem, FrT M M' → fb M' 189 8 = true → Q (a * b) M') : wp_X12_times 189 a b M Q := by
  have t2 : FrT M (st2 M 189 8 (bz true)) := ⟨fun k j q => st2_n _ _ q, fun _ => fb_s _ _ _ _⟩
  have b29 : fitsL (a * b) = false → ∀ M31 : Mem, M31 = st2 M 189 8 (bz true) → Q (a * b) M31 := fun e M31 e2 => by subst e2; exact h2 e _ t2 (fb_s _ _ _ _)
  have nf : ¬ (-9223372036854775808 < a * b ∧ a * b < 9223372036854775808) → fitsL (a * b) = false := fun z => decide_eq_false z
  unfold wp_X12_times wp_X12_times_b20 wp_X12_times_b29
  rw [vl_0, vm_NO, w64_in ha, w64_in hb]
  refine ⟨fun u => ?_, fun u => ⟨u, ?_⟩⟩
  · have e : a * b = 0 := by rw [u, Int.zero_mul]
    rw [e, vl_0]
    rw [e] at h1
    exact ⟨fun _ => h1 (by decide), fun z => absurd (by decide) z⟩
  · obtain ⟨k, hk⟩ : ∃ k, a * b = w64 (a * b) + 18446744073709551616 * k := ⟨(a * b + 9223372036854775808) / 18446744073709551616, by unfold w64; omega⟩
    have hr := w64_r (a * b)
    have mw := mul_wrap ha u hb hr k hk
    refine ⟨fun u2 => b29 (nf (fun z => ?_)), fun u2 => ?_⟩
    · have : k ≠ 0 := fun z2 => u2 (mw.mpr z2)
      omega
    · have k0 : k = 0 := mw.mp (by
        by_cases z : w64 ((w64 (a * b)).tdiv a) = b
        · exact z
        · exact absurd z u2)
      subst k0
      refine ⟨fun u3 => h1 (decide_eq_true ⟨by omega, by omega⟩), fun u3 => b29 (nf (fun z => by omega))⟩
theorem la_sign (a b : Int) : w64 (la (lx a (a + b)) (lx b (a + b))) < 0 ↔ (¬ (w64 a < 0 ↔ w64 (a + b) < 0) ∧ ¬ (w64 b < 0 ↔ w64 (a + b) < 0)) := by
  have sg : ∀ x : Int64, (x.toInt < 0 ↔ x.toBitVec.msb = true) := fun x => by
    rw [BitVec.msb_eq_toInt]
    exact (decide_eq_true_iff).symm
  have e1 : w64 (la (lx a (a + b)) (lx b (a + b))) = ((i6 a ^^^ i6 (a + b)) &&& (i6 b ^^^ i6 (a + b))).toInt := by
    unfold la lx
    rw [i6_of, i6_of, ← i6_toInt, i6_of]
  have s : ∀ z : Int, (w64 z < 0 ↔ (i6 z).toBitVec.msb = true) := fun z => by rw [← sg, i6_toInt]
  rw [e1, sg, s a, s b, s (a + b), Int64.toBitVec_and, Int64.toBitVec_xor, Int64.toBitVec_xor, BitVec.msb_and, BitVec.msb_xor, BitVec.msb_xor]
  cases (i6 a).toBitVec.msb <;> cases (i6 b).toBitVec.msb <;> cases (i6 (a + b)).toBitVec.msb <;> simp
theorem plus_any {a b : Int} {M : Mem} {Q : Int → Mem → Prop} (h : ∀ (r : Int) (M' : Mem), FrT M M' → Q r M') : wp_X12_plus 189 a b M Q := by
  have t1 : FrT M M := ⟨fun _ _ _ => rfl, fun z => z⟩
  have t2 : FrT M (st2 M 189 8 (bz true)) := ⟨fun k j q => st2_n _ _ q, fun _ => fb_s _ _ _ _⟩
  unfold wp_X12_plus wp_X12_plus_b28
  exact ⟨fun _ M30 e => by subst e; exact h _ _ t2, fun _ => ⟨fun _ => h _ M t1, fun _ M30 e => by subst e; exact h _ _ t2⟩⟩
theorem plus_ok {a b : Int} (ha : inL a) (hb : inL b) {M : Mem} {Q : Int → Mem → Prop} (h1 : fitsL (a + b) = true → Q (a + b) M) (h2 : fitsL (a + b) = false → ∀ M' : Mem, FrT M M' → fb M' 189 8 = true → Q (a + b) M') : wp_X12_plus 189 a b M Q := by
  have t2 : FrT M (st2 M 189 8 (bz true)) := ⟨fun k j q => st2_n _ _ q, fun _ => fb_s _ _ _ _⟩
  have b28 : fitsL (a + b) = false → ∀ M30 : Mem, M30 = st2 M 189 8 (bz true) → Q (a + b) M30 := fun e M30 e2 => by subst e2; exact h2 e _ t2 (fb_s _ _ _ _)
  have nf : ¬ (-9223372036854775808 < a + b ∧ a + b < 9223372036854775808) → fitsL (a + b) = false := fun z => decide_eq_false z
  have a1 := ha.1
  have a2 := ha.2
  have b1 := hb.1
  have b2 := hb.2
  have wab : (w64 (a + b) < 0 ↔ (a + b < 0 ∧ -9223372036854775808 ≤ a + b) ∨ 9223372036854775808 ≤ a + b) := by
    unfold w64
    omega
  have weq : (w64 (a + b) = -9223372036854775808 ↔ a + b = -9223372036854775808 ∨ a + b = 9223372036854775808) := by
    unfold w64
    omega
  unfold wp_X12_plus wp_X12_plus_b28
  rw [vl_0, vm_NO, la_sign, w64_in ha, w64_in hb]
  refine ⟨fun u => b28 (nf (fun z => by omega)), fun u => ⟨fun u2 => h1 (decide_eq_true (by omega)), fun u2 => b28 (nf (fun z => by omega))⟩⟩
theorem common_ok {n d : Int} (hn : inL n) (hd : 0 < d ∧ d < 9223372036854775808) {M : Mem} {Q : Int → Prop} (h : Q (gcI n d)) : wp_X12_common n d M Q := by
  have n1 := hn.1
  have n2 := hn.2
  have hgI : gcI n d = ((Nat.gcd d.toNat n.natAbs : Nat) : Int) := by
    unfold gcI
    rw [show d.toNat = d.natAbs by omega, Nat.gcd_comm]
    rfl
  have loop : ∀ s : Int, s = (n.natAbs : Int) → wp_X12_common_L9 Q M s d := by
    intro s hs
    refine ⟨fun x4 x6 => ∃ A B : Nat, x4 = (A : Int) ∧ x6 = (B : Int) ∧ A < 9223372036854775808 ∧ B < 9223372036854775808 ∧ Nat.gcd B A = Nat.gcd d.toNat n.natAbs, fun _ x6 => x6.toNat, ⟨n.natAbs, d.toNat, hs, by omega, by omega, by omega, rfl⟩, ?_⟩
    rintro x4 x6 ⟨A, B, rfl, rfl, hA, hB, hG⟩
    unfold wp_X12_common_B9
    dsimp only
    rw [vl_0, w64_id (z := (A : Int)) (by omega) (by omega), w64_id (z := (B : Int)) (by omega) (by omega)]
    refine ⟨fun u => ?_, fun u => ⟨u, ?_⟩⟩
    · have : B = 0 := by omega
      subst this
      rw [hgI, ← hG, Nat.gcd_zero_left] at h
      exact h
    · have hB0 : 0 < B := by omega
      have hm := Nat.mod_lt A hB0
      rw [Int.tmod_eq_emod_of_nonneg (by omega), ← Int.natCast_emod]
      exact ⟨⟨B, A % B, rfl, rfl, hB, by omega, by rw [← hG, ← Nat.gcd_rec]⟩, by omega⟩
  unfold wp_X12_common wp_J9_abs_067f4
  rw [vl_0, w64_in hn]
  exact ⟨fun u => loop n (by omega), fun u => loop (-n) (by omega)⟩
theorem lowest_great {n d : Int} {M : Mem} {Q : Mem → Prop} (hf : fb M 189 8 = true) (h : ∀ M' : Mem, RF M' none → FrF M M' → Q M') : wp_X12_lowest 189 n d M Q := by
  rintro M2 rfl M7 rfl
  have e : fb (st2 (st2 M 189 9 0) 189 10 1) 189 8 = true := by rw [fb_n _ _ (by omega), fb_n _ _ (by omega)]; exact hf
  exact ⟨fun z => (by rw [e] at z; cases z), fun _ => h _ e (fun k j q => by rw [st2_n _ _ (by omega), st2_n _ _ (by omega)])⟩
theorem lowest_ok {n d : Int} {M : Mem} {Q : Mem → Prop} (hf : fb M 189 8 = false) (hn : inL n) (hd : 0 < d ∧ d < 9223372036854775808) (h : ∀ M' : Mem, RF M' (redq n d) → FrF M M' → Q M') : wp_X12_lowest 189 n d M Q := by
  rintro M2 rfl M7 rfl
  have e : fb (st2 (st2 M 189 9 0) 189 10 1) 189 8 = false := by rw [fb_n _ _ (by omega), fb_n _ _ (by omega)]; exact hf
  have er := redq_some (n := n) (d := d) (decide_eq_true hn) (decide_eq_true ⟨by omega, hd.2⟩)
  rw [er] at h
  have hg := gcI_pos (n := n) hd.1
  have hgl : gcI n d ≤ d := Int.le_of_dvd hd.1 (gcI_dvd n d).2
  have dI : inL d := ⟨by omega, hd.2⟩
  refine ⟨fun _ => common_ok hn hd ?_, fun z => (by rw [e] at z; cases z)⟩
  rw [w64_in (z := gcI n d) ⟨by omega, by omega⟩, w64_in hn, w64_in dI]
  refine ⟨by omega, ?_⟩
  rintro M30 rfl
  refine ⟨by omega, ?_⟩
  rintro M38 rfl
  refine h _ ⟨?_, ?_, st2_s _ _ _ _⟩ (fun k j q => by rw [st2_n _ _ (by omega), st2_n _ _ (by omega), st2_n _ _ (by omega), st2_n _ _ (by omega)])
  · rw [fb_n _ _ (by omega), fb_n _ _ (by omega)]; exact e
  · rw [st2_n _ _ (by omega), st2_s]
theorem rproduct_great {a b c d : Int} {M : Mem} {Q : Mem → Prop} (hf : fb M 189 8 = true) (h : ∀ M' : Mem, RF M' none → FrF M M' → Q M') : wp_X12_product 189 a b c d M Q :=
  times_any fun _ M1 h1 => times_any fun _ M2 h2 => lowest_great (h2.2 (h1.2 hf)) (fun M' x y => h M' x (FrF_trans (FrF_trans (FrT_F h1) (FrT_F h2)) y))
theorem rproduct_ok {x y : Int × Int} (hx : inL x.1 ∧ inL x.2) (hy : inL y.1 ∧ inL y.2) (hp : 0 < x.2 * y.2) {M : Mem} {Q : Mem → Prop} (hf : fb M 189 8 = false) (h : ∀ M' : Mem, RF M' (mulq x y) → FrF M M' → Q M') : wp_X12_product 189 x.1 x.2 y.1 y.2 M Q := by
  have em : mulq x y = if fitsL (x.1 * y.1) && fitsL (x.2 * y.2) then redq (x.1 * y.1) (x.2 * y.2) else none := rfl
  refine times_ok hx.1 hy.1 (fun f1 => times_ok hx.2 hy.2 (fun f2 => ?_) (fun f2 M1 h1 g1 => ?_)) (fun f1 M1 h1 g1 => times_any fun r M2 h2 => ?_)
  · rw [f1, f2] at em
    exact lowest_ok hf (fitsL_iff.mp f1) ⟨hp, (fitsL_iff.mp f2).2⟩ (fun M' q1 q2 => h M' (by rw [em]; exact q1) q2)
  · rw [f1, f2] at em
    exact lowest_great g1 (fun M' q1 q2 => h M' (by rw [em]; exact q1) (FrF_trans (FrT_F h1) q2))
  · rw [f1] at em
    exact lowest_great (h2.2 g1) (fun M' q1 q2 => h M' (by rw [em]; exact q1) (FrF_trans (FrF_trans (FrT_F h1) (FrT_F h2)) q2))
theorem rsum_great {a b c d : Int} {M : Mem} {Q : Mem → Prop} (hf : fb M 189 8 = true) (h : ∀ M' : Mem, RF M' none → FrF M M' → Q M') : wp_X12_sum 189 a b c d M Q :=
  times_any fun _ M1 h1 => times_any fun _ M2 h2 => plus_any fun _ M3 h3 => times_any fun _ M4 h4 => lowest_great (h4.2 (h3.2 (h2.2 (h1.2 hf)))) (fun M' x y => h M' x (FrF_trans (FrF_trans (FrF_trans (FrF_trans (FrT_F h1) (FrT_F h2)) (FrT_F h3)) (FrT_F h4)) y))
theorem rsum_ok {x y : Int × Int} (hx : Fr x) (hy : Fr y) {M : Mem} {Q : Mem → Prop} (hf : fb M 189 8 = false) (h : ∀ M' : Mem, RF M' (addq x y) → FrF M M' → Q M') : wp_X12_sum 189 x.1 x.2 y.1 y.2 M Q := by
  obtain ⟨x1, x2, x3⟩ := Fr_in hx
  obtain ⟨y1, y2, y3⟩ := Fr_in hy
  have em : addq x y = if fitsL (x.1 * y.2) && fitsL (y.1 * x.2) && fitsL (x.2 * y.2) then redq (x.1 * y.2 + y.1 * x.2) (x.2 * y.2) else none := rfl
  refine times_ok x1 y2 (fun f1 => times_ok y1 x2 (fun f2 => plus_ok (fitsL_iff.mp f1) (fitsL_iff.mp f2) (fun f3 => times_ok x2 y2 (fun f4 => ?_) (fun f4 M1 h1 g1 => ?_)) (fun f3 M1 h1 g1 => times_any fun r M2 h2 => ?_)) (fun f2 M1 h1 g1 => plus_any fun r M2 h2 => times_any fun r M3 h3 => ?_)) (fun f1 M1 h1 g1 => times_any fun r M2 h2 => plus_any fun r M3 h3 => times_any fun r M4 h4 => ?_)
  · rw [f1, f2, f4] at em
    exact lowest_ok hf (fitsL_iff.mp f3) ⟨Int.mul_pos x3 y3, (fitsL_iff.mp f4).2⟩ (fun M' q1 q2 => h M' (by rw [em]; exact q1) q2)
  · rw [f1, f2, f4] at em
    exact lowest_great g1 (fun M' q1 q2 => h M' (by rw [em]; exact q1) (FrF_trans (FrT_F h1) q2))
  · have em2 : addq x y = none := by
      rw [em]
      split
      · exact redq_none (Or.inl f3)
      · rfl
    exact lowest_great (h2.2 g1) (fun M' q1 q2 => h M' (by rw [em2]; exact q1) (FrF_trans (FrF_trans (FrT_F h1) (FrT_F h2)) q2))
  · rw [f1, f2] at em
    exact lowest_great (h3.2 (h2.2 g1)) (fun M' q1 q2 => h M' (by rw [em]; exact q1) (FrF_trans (FrF_trans (FrF_trans (FrT_F h1) (FrT_F h2)) (FrT_F h3)) q2))
  · rw [f1] at em
    exact lowest_great (h4.2 (h3.2 (h2.2 g1))) (fun M' q1 q2 => h M' (by rw [em]; exact q1) (FrF_trans (FrF_trans (FrF_trans (FrF_trans (FrT_F h1) (FrT_F h2)) (FrT_F h3)) (FrT_F h4)) q2))
theorem rquotient_great {a b c d : Int} {M : Mem} {Q : Mem → Prop} (hf : fb M 189 8 = true) (h : ∀ M' : Mem, RF M' none → FrF M M' → Q M') : wp_X12_quotient 189 a b c d M Q :=
  ⟨fun _ => rproduct_great hf h, fun _ => rproduct_great hf h⟩
theorem rquotient_ok {x y : Int × Int} (hx : Fr x) (hy : Fr y) (h0 : y.1 ≠ 0) {M : Mem} {Q : Mem → Prop} (hf : fb M 189 8 = false) (h : ∀ M' : Mem, RF M' (divq x y) → FrF M M' → Q M') : wp_X12_quotient 189 x.1 x.2 y.1 y.2 M Q := by
  obtain ⟨x1, x2, x3⟩ := Fr_in hx
  obtain ⟨y1, y2, y3⟩ := Fr_in hy
  have ny1 : inL (-y.1) := ⟨by have := y1.2; omega, by have := y1.1; omega⟩
  have ny2 : inL (-y.2) := ⟨by have := y2.2; omega, by have := y2.1; omega⟩
  unfold wp_X12_quotient
  rw [vl_0, w64_in y1]
  unfold divq at h
  refine ⟨fun u => ?_, fun u => ?_⟩
  · rw [if_neg (by omega)] at h
    exact rproduct_ok (y := (y.2, y.1)) ⟨x1, x2⟩ ⟨y2, y1⟩ (Int.mul_pos x3 (by dsimp only; omega)) hf h
  · rw [if_pos (by omega)] at h
    exact rproduct_ok (y := (-y.2, -y.1)) ⟨x1, x2⟩ ⟨ny2, ny1⟩ (Int.mul_pos x3 (by dsimp only; omega)) hf h
theorem rpart_ok {q : Q2} {z : Int} {M : Mem} {Q : Int → Prop} (hz : R32 z) (ha : RF M q) (h : Q (partq q z)) : wp_X12_part 189 z M Q := by
  unfold wp_X12_part
  rw [w32_R hz]
  cases q with
  | none => exact ⟨fun y => (by rw [show fb M 189 8 = true from ha] at y; cases y), fun _ => h⟩
  | some x =>
    have h : Q (if z = 0 then x.1 else x.2) := h
    refine ⟨fun _ => ⟨fun u => ?_, fun u => ?_⟩, fun y => (by rw [ha.1] at y; cases y)⟩
    · rw [ha.2.2]; rw [if_neg u] at h; exact h
    · rw [ha.2.1]; rw [if_pos (by omega)] at h; exact h
