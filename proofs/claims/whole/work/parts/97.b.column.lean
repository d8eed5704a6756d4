/-! the reference begins: a column is carried on to a rung -/
def cfS (n : Nat) (v : Nat → Nat → Int) (du : Nat → Int) (j : Nat) : Nat → Int := if j = n then nego du else v j
def cvS (rr : F1) (f : Nat → Int) : Nat → Q2
  | 0 => some (0, 1)
  | i + 1 => carryC rr f i
theorem column_ok {M : Mem} (hR : RefOK M noY) {n i j : Nat} (hn : M 189 3 = (n : Int)) (hi : i < rungs (M 190)) (hj : j ≤ n) (hf : fb M 189 8 = false) {f : Nat → Int} (hfi : f i = if j = n then -(M 190 (dayS (M 190) i)) else payAt (M 190) (M 193) j (rateByS (M 190) (M 191) noY) i) (hC : CQ M 202 203 j (cvS (rrS (M 190) (M 191) noY) f i)) (hF : FrO (cvS (rrS (M 190) (M 191) noY) f i)) (hne : carryC (rrS (M 190) (M 191) noY) f i ≠ none) {Q : Mem → Prop} {K37 K47 : Mem → Int → Prop} (h : ∀ M' : Mem, CQ M' 202 203 j (carryC (rrS (M 190) (M 191) noY) f i) → fb M' 189 8 = false → (∀ a c, ¬ (a = 189 ∧ 8 ≤ c ∧ c ≤ 10) → ¬ ((a = 202 ∨ a = 203) ∧ c = j) → M' a c = M a c) → K47 M' ((j : Int) + 1)) : wp_X12_begins_B47 189 Q K47 K37 M (i : Int) (j : Int) := by
  have rri := RefOK_rr hR hi
  obtain ⟨rr, hrE⟩ : ∃ rr, rr = rrS (M 190) (M 191) noY := ⟨_, rfl⟩
  rw [← hrE] at hC hF hne h rri
  have n5 : n ≤ 5 := by have := hR.2.2.2.2.2.2.1; omega
  have hN := hR.2.1
  have i5 : i < 5 := Nat.lt_of_lt_of_le hi hN
  have dI := hR.2.2.2.1 i hi
  obtain ⟨d1, d2, -⟩ := dayS_ok hi
  have dD := hR.1 (dayS (M 190) i) d2
  have hfb : -1000000 < f i ∧ f i < 1000000 := by
    rw [hfi]
    by_cases q : j = n
    · rw [if_pos q]; omega
    · rw [if_neg q]
      have := payAt_range hR (b := j) (by rw [hn]; omega) i
      omega
  obtain ⟨x, xe, x1, x2⟩ := hC
  have xF := hF x xe
  unfold wp_X12_begins_B47
  rw [hn, w32n (show n < 2147483648 by omega), w32n (show j < 2147483648 by omega), rt_189.2.2.2.2.2.2.1, rt_189.2.2.2.2.2.2.2, ixn (show j < 2147483648 by omega)]
  refine ⟨fun u => absurd u (by omega), fun _ => ⟨inbn LN_202 (by omega), ?_⟩⟩
  rintro M2 rfl
  refine ⟨inbn LN_203 (by omega), ?_⟩
  rintro M3 rfl
  obtain ⟨p1, p2⟩ := RF_set hf x1 (show st2 M 189 9 (M 202 j) 203 j = x.2 by rw [st2_n _ _ (by omega)]; exact x2)
  generalize st2 (st2 M 189 9 (M 202 j)) 189 10 (st2 M 189 9 (M 202 j) 203 j) = M3 at p1 p2 ⊢
  -- behind the growth
  have rest : ∀ (M4 : Mem) (q : Q2), FrF M M4 → FrO q → RF M4 q → ob addq q (some (f i, 1)) = carryC rr f i → wp_X12_begins_b85 189 Q K47 K37 M4 (i : Int) (j : Int) := by
    intro M4 q q1 qF q2 q3
    obtain ⟨r1, r2, r3, r4, r5, r6, r7⟩ := FrF_ref hR q1
    have fin : ∀ z : Int, z = f i → wp_X12_begins_b125 189 Q K47 K37 M4 (M4 189 9) (M4 189 10) z (i : Int) (j : Int) := by
      intro z hz
      subst hz
      cases q with
      | none => exact absurd q3.symm hne
      | some w =>
        unfold wp_X12_begins_b125
        rw [q2.2.1, q2.2.2, rt_189.2.2.2.2.2.2.1, rt_189.2.2.2.2.2.2.2, ixn (show j < 2147483648 by omega)]
        refine rsum_ok (x := w) (y := (f i, 1)) (qF w rfl) (Fr_int ⟨by omega, by omega⟩) q2.1 (fun M5 t1 t2 => ⟨inbn LN_202 (by omega), ?_⟩)
        have q3 : addq w (f i, 1) = carryC rr f i := q3
        rw [q3] at t1
        cases hc : carryC rr f i with
        | none => exact absurd hc hne
        | some y =>
          rw [hc] at t1 h
          rintro M6 rfl
          refine ⟨inbn LN_203 (by omega), ?_⟩
          rintro M7 rfl
          refine h _ ⟨y, rfl, ?_, ?_⟩ ?_ (fun a c z1 z2 => ?_)
          · rw [st2_n _ _ (by omega), st2_s]; exact t1.2.1
          · rw [st2_s, st2_n _ _ (by omega)]; exact t1.2.2
          · rw [fb_n _ _ (by omega), fb_n _ _ (by omega)]; exact t1.1
          · rw [st2_n _ _ (by omega), st2_n _ _ (by omega), t2 a c (by omega), q1 a c (by omega)]
    unfold wp_X12_begins_b85
    rw [r6, hn, w32n (show n < 2147483648 by omega), w32n (show j < 2147483648 by omega)]
    refine ⟨fun u => ?_, fun u => ?_⟩
    · have hjn : j ≠ n := by omega
      refine paysAtRung_ok r1 (by rw [r6, hn]; omega) (by rw [r2]; exact hi) (fin _ ?_)
      rw [r2, r3, r5]
      have pr := payAt_range hR (b := j) (by rw [hn]; omega) i
      rw [w32_id (by omega) (by omega), hfi, if_neg hjn]
    · have hjn : j = n := by omega
      have e6 : rt 189 6 = 194 ∧ rt 189 0 = 190 := by decide +kernel
      rw [e6.1, e6.2, ixn (show i < 2147483648 by omega), r1.2.2.2.1 i (by rw [r2]; exact hi), r2, ixn (show dayS (M 190) i < 2147483648 by omega)]
      refine ⟨inbn LN_194 i5, inbn LN_190 (by omega), fin _ ?_⟩
      rw [w32_id (by omega) (by omega), hfi, if_pos hjn]
  have step : carryC rr f i = ob addq (if i = 0 then cvS rr f i else ob mulq (cvS rr f i) (fac (rr i))) (some (f i, 1)) := by cases i <;> rfl
  rw [w32n (show i < 2147483648 by omega)]
  refine ⟨fun u => ?_, fun u => ?_⟩
  · have i0 : i = 0 := by omega
    refine rest M3 _ p2 (FrO_some xF) p1 ?_
    rw [step, if_pos i0, xe]
  · obtain ⟨r1, r2, r3, -⟩ := FrF_ref hR p2
    refine byFactor_ok r1 (by rw [r2]; exact hi) (FrO_some xF) p1 (fun M4 t1 t2 => ?_)
    rw [r2, r3, ← hrE] at t1
    have t1 : RF M4 (ob mulq (some x) (fac (rr i))) := t1
    refine rest M4 _ (FrF_trans p2 t2) (ob_mul_Fr (FrO_some xF) (fac_ok rri).1) t1 ?_
    rw [step, if_neg (by omega), xe]
theorem carries_ok {M : Mem} (hR : RefOK M noY) {n i : Nat} (hn : M 189 3 = (n : Int)) (hi : i < rungs (M 190)) (hf : fb M 189 8 = false) {cf : Nat → Nat → Int} (hcf : ∀ j, j ≤ n → cf j i = if j = n then -(M 190 (dayS (M 190) i)) else payAt (M 190) (M 193) j (rateByS (M 190) (M 191) noY) i) (hC : ∀ j, j ≤ n → CQ M 202 203 j (cvS (rrS (M 190) (M 191) noY) (cf j) i)) (hF : ∀ j, j ≤ n → FrO (cvS (rrS (M 190) (M 191) noY) (cf j) i)) (hne : ∀ j, j ≤ n → carryC (rrS (M 190) (M 191) noY) (cf j) i ≠ none) {Q : Mem → Prop} {K37 : Mem → Int → Prop} (h : ∀ M' : Mem, (∀ j, j ≤ n → CQ M' 202 203 j (carryC (rrS (M 190) (M 191) noY) (cf j) i)) → fb M' 189 8 = false → (∀ a c, ¬ (a = 189 ∧ 8 ≤ c ∧ c ≤ 10) → a ≠ 202 → a ≠ 203 → M' a c = M a c) → wp_X12_comes 189 (10 + (i : Int)) false 0 M' (fun M162 => wp_X12_isRoom 189 (i : Int) M162 (fun r167 => ((r167 = false → wp_X12_begins_b196 189 Q K37 M162 (i : Int)) ∧ (r167 = true → inb (rt 189 6) (i : Int) ∧ inb (rt 189 2) (M162 (rt 189 6) (ix (i : Int))) ∧ wp_X12_comes 189 (20 + (i : Int)) true ((w32 (M162 (rt 189 2) (ix (M162 (rt 189 6) (ix (i : Int)))))) - 1) M162 (fun M193 => wp_X12_begins_b196 189 Q K37 M193 (i : Int))))))) : wp_X12_begins_L47 189 Q K37 M (i : Int) 0 := by
  have n5 : n ≤ 5 := by have := hR.2.2.2.2.2.2.1; omega
  refine ⟨fun M' x2 => ∃ k : Nat, x2 = (k : Int) ∧ k ≤ n + 1 ∧ (∀ a c, ¬ (a = 189 ∧ 8 ≤ c ∧ c ≤ 10) → a ≠ 202 → a ≠ 203 → M' a c = M a c) ∧ fb M' 189 8 = false ∧ (∀ j, j < k → j ≤ n → CQ M' 202 203 j (carryC (rrS (M 190) (M 191) noY) (cf j) i)) ∧ ∀ j, k ≤ j → j ≤ n → CQ M' 202 203 j (cvS (rrS (M 190) (M 191) noY) (cf j) i), fun _ x2 => ((n : Int) + 1 - x2).toNat, ⟨0, rfl, Nat.zero_le _, fun _ _ _ _ _ => rfl, hf, fun _ q => absurd q (Nat.not_lt_zero _), fun j _ hj => hC j hj⟩, ?_⟩
  rintro M1 x2 ⟨k, rfl, hk, f1, f2, f3, f4⟩
  have fz : FrZ M M1 := fun a c q1 q2 => f1 a c (by omega) (by omega) (by omega)
  obtain ⟨r1, r2, r3, r4, r5, r6, r7⟩ := FrZ_ref hR fz
  rcases Nat.lt_or_ge n k with q | q
  · unfold wp_X12_begins_B47
    dsimp only
    rw [r6, hn, w32n (show n < 2147483648 by omega), w32n (show k < 2147483648 by omega)]
    exact ⟨fun _ => h M1 (fun j hj => f3 j (by omega) hj) f2 f1, fun u => absurd (show (n : Int) < (k : Int) by omega) u⟩
  · refine column_ok r1 (by rw [r6]; exact hn) (by rw [r2]; exact hi) q f2 (f := cf k) ?_ ?_ ?_ ?_ (fun M2 s1 s2 s3 => ?_)
    · rw [r2, r3, r5]; exact hcf k q
    · rw [r2, r3]; exact f4 k (Nat.le_refl _) q
    · rw [r2, r3]; exact hF k q
    · rw [r2, r3]; exact hne k q
    · rw [r2, r3] at s1
      dsimp only
      refine ⟨⟨k + 1, rfl, by omega, fun a c q1 q2 q3 => ?_, s2, fun j j1 j2 => ?_, fun j j1 j2 => ?_⟩, by omega⟩
      · rw [s3 a c q1 (by omega)]; exact f1 a c q1 q2 q3
      · by_cases e : j = k
        · subst e; exact s1
        · exact CQ_same (f3 j (by omega) j2) (s3 _ _ (by omega) (by omega)) (s3 _ _ (by omega) (by omega))
      · exact CQ_same (f4 j (by omega) j2) (s3 _ _ (by omega) (by omega)) (s3 _ _ (by omega) (by omega))
