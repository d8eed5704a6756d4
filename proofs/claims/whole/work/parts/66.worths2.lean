/-! worth, length, surplus; chance -/
def amtS (d r t : F1) (n row : Int) : F1 := fun i => if row = -1 then d (dayS d i) else if row = -2 then PD d r t noY (heldF t) n i else payAt d t row.toNat (rateByS d r noY) i
def rowOK (n row : Int) : Prop := row = -1 ∨ row = -2 ∨ (0 ≤ row ∧ row < n)
theorem amtS_R {d r l t : F1} {n : Int} (h : Rng d r l t n) {row : Int} (hr : rowOK n row) {i : Nat} (hi : i < rungs d) : R32 (amtS d r t n row i) := by
  have hh : ∀ b : Nat, (b : Int) < n → 0 ≤ heldF t b ∧ heldF t b ≤ 99 := fun b hb => (h.2.2.2.2 b hb).2.2.2.2.2.2
  unfold amtS
  by_cases q1 : row = -1
  · rw [if_pos q1]
    have := h.1 (dayS d i) (dayS_ok hi).2.1
    exact ⟨by omega, by omega⟩
  · rw [if_neg q1]
    by_cases q2 : row = -2
    · rw [if_pos q2]
      have := pdH_range h noY_yR hh i
      unfold PD
      exact ⟨by omega, by omega⟩
    · rw [if_neg q2]
      rcases hr with z | z | z
      · exact absurd z q1
      · exact absurd z q2
      · have := Rng_payAt h noY_yR (b := row.toNat) (by omega) i
        exact ⟨by omega, by omega⟩
theorem AmtOK_ok {M : Mem} (hR : RefOK M noY) {row : Int} (hr : rowOK (M 189 3) row) : AmtOK M row (amtS (M 190) (M 191) (M 193) (M 189 3) row) := by
  intro M' hF i hi
  have hg := RefOK_Rng hR
  refine ⟨amtS_R hg hr hi, fun P hP => ?_⟩
  obtain ⟨r1, r2, r3, r4, r5, r6, r7⟩ := FrF_ref hR hF
  have hN := hR.2.1
  have hi5 := Nat.lt_of_lt_of_le hi hN
  have hn := hg.2.2.1
  have hn2 := hg.2.2.2.1
  unfold amtS at hP
  unfold wp_X12_amountAt
  have hrw : w32 row = row := w32_id (by unfold rowOK at hr; omega) (by unfold rowOK at hr; omega)
  rw [wm_1, hrw]
  refine ⟨fun u => ⟨fun u2 => ?_, fun u2 => ?_⟩, fun u => ?_⟩
  · have e : row = -2 := by unfold rowOK at hr; omega
    rw [if_neg (by omega), if_pos e] at hP
    have hT := hg.2.2.2.2
    obtain ⟨n, hnn⟩ : ∃ n : Nat, M 189 3 = (n : Int) := ⟨(M 189 3).toNat, by omega⟩
    refine ⟨fun x3 x4 => ∃ b : Nat, x4 = (b : Int) ∧ b ≤ n ∧ x3 = sumN (fun b => heldF (M 193) b * payAt (M 190) (M 193) b (rateByS (M 190) (M 191) noY) i) b, fun _ x4 => ((n : Int) - x4).toNat, ⟨0, rfl, Nat.zero_le _, rfl⟩, ?_⟩
    rintro x3 x4 ⟨b, rfl, hb, rfl⟩
    unfold wp_X12_amountAt_B33
    dsimp only
    rw [r6, hnn, w32n (show n < 2147483648 by omega), w32n (show b < 2147483648 by omega)]
    refine ⟨fun u3 => ?_, fun u3 => of_ok (w := 6) rfl (by omega) (by decide) (paysAtRung_ok r1 (by rw [r6, hnn]; omega) (by rw [r2]; exact hi) ?_)⟩
    · have : b = n := by omega
      subst this
      unfold PD pdH at hP
      rw [hnn, show ((b : Int)).toNat = b by omega] at hP
      exact hP
    · rw [r2, r3, r5, show 5 * 6 + b = 30 + b by omega]
      exact ⟨⟨b + 1, by omega, by omega, rfl⟩, by omega⟩
  · have e : row = -1 := by omega
    rw [if_pos e] at hP
    have hd := dayS_ok hi
    have h194 : M' 194 i = (dayS (M 190) i : Int) := by rw [hF 194 i (by omega)]; exact hR.2.2.2.1 i hi
    rw [rtv_189_6, rtv_189_0, ixn (show i < 2147483648 by omega), h194]
    have hd60 := hd.2.1
    generalize dayS (M 190) i = D at *
    rw [ixn (show D < 2147483648 by omega), r2]
    exact ⟨inbn LN_194 hi5, inbn LN_190 (by omega), hP⟩
  · rw [if_neg (by omega), if_neg (by omega)] at hP
    obtain ⟨b, rfl⟩ : ∃ b : Nat, row = (b : Int) := ⟨row.toNat, by omega⟩
    have hb : (b : Int) < M 189 3 := by unfold rowOK at hr; omega
    rw [show ((b : Int)).toNat = b by omega] at hP
    refine paysAtRung_ok r1 (by rw [r6]; exact hb) (by rw [r2]; exact hi) ?_
    rw [r2, r3, r5]
    exact hP
def wS3 (d r t : F1) (n row : Int) : Q2 := whS (rrS d r noY) (amtS d r t n row) (rungs d)
def lS3 (d r t : F1) (n row : Int) : Q2 := ob divq (ltS (rrS d r noY) (amtS d r t n row) (rungs d)) (wS3 d r t n row)
def sS3 (d r t : F1) (n row : Int) : Q2 := ob divq (spS (rrS d r noY) (amtS d r t n row) (lS3 d r t n row) (rungs d)) (wS3 d r t n row)
/-- what the worths of the class may change -/
def FrW (M M' : Mem) : Prop := ∀ k j, ¬ (71 ≤ k ∧ k ≤ 86) → M' k j = M k j
theorem FrW_trans {M M2 M3 : Mem} (h : FrW M M2) (h2 : FrW M2 M3) : FrW M M3 := fun k j q => (h2 k j q).trans (h k j q)
theorem keepF_w {k j : Nat} (h : keep k j = true) : ¬ (71 ≤ k ∧ k ≤ 86) ∧ ¬ (k = 189 ∧ 8 ≤ j ∧ j ≤ 10) := by
  unfold keep at h
  by_cases h0 : k < 48
  · omega
  · rw [if_neg h0] at h
    by_cases h1 : k = 69
    · omega
    · rw [if_neg h1] at h
      by_cases h2 : k < 87
      · rw [if_pos h2] at h; cases h
      · rw [if_neg h2] at h
        by_cases h3 : k < 98
        · omega
        · rw [if_neg h3] at h
          by_cases h4 : k < 102
          · omega
          · rw [if_neg h4] at h
            by_cases h5 : k < 174
            · omega
            · rw [if_neg h5] at h
              by_cases h6 : k < 181
              · omega
              · rw [if_neg h6] at h
                by_cases h7 : k < 189
                · omega
                · rw [if_neg h7] at h
                  by_cases h8 : k = 189
                  · rw [if_pos h8] at h
                    simp only [Bool.or_eq_true, decide_eq_true_eq] at h
                    omega
                  · omega
theorem Inv_FrW {DK : Mem → Prop} (hD : KeptH DK) {M M2 : Mem} (hI : Inv DK M) (h : FrW M M2) : Inv DK M2 :=
  Inv_same (KeptH_Kept hD) (fun k j q => h k j (keepF_w q).1) hI
theorem Inv_FrF {DK : Mem → Prop} (hD : KeptH DK) {M M2 : Mem} (hI : Inv DK M) (h : FrF M M2) : Inv DK M2 :=
  Inv_same (KeptH_Kept hD) (fun k j q => h k j (keepF_w q).2) hI
theorem reckonRow_ok {DK : Mem → Prop} (hD : KeptH DK) {M : Mem} (hI : Inv DK M) {row : Int} (hr : rowOK (M 189 3) row) {Q : Mem → Prop} (h : ∀ M' : Mem, Inv DK M' → (∀ k, 189 ≤ k → M' k = M k) → M' 27 0 = (rungs (M 190) : Int) → FR M' 74 (wS3 (M 190) (M 191) (M 193) (M 189 3) row) → (∀ i, i < rungs (M 190) → FR M' (81 + i) (wAtS (rrS (M 190) (M 191) noY) (amtS (M 190) (M 191) (M 193) (M 189 3) row i) (i + 1))) → (∀ k j, 86 ≤ k → M' k j = M k j) → Q M') : wp_X11_reckonRow 0 row M Q := by
  unfold wp_X11_reckonRow
  refine look_ok' hI (fun M0 hI0 hS hf he => ?_)
  obtain ⟨m1, m2⟩ := Inv_n hI0
  have hg := Inv_Rng hI0
  have hR0 := Inv_RefOK hI0
  have hB0 := hI0.1
  rw [← he 190 (by decide), ← he 191 (by decide), ← he 193 (by decide), ← he 189 (by decide)] at h
  rw [← he 189 (by decide)] at hr
  have hN5 := hR0.2.1
  have hrr : RR (rrS (M0 190) (M0 191) noY) (rungs (M0 190)) := fun c hc => RefOK_rr hR0 hc
  have hrw : w32 row = row := w32_id (by unfold rowOK at hr; omega) (by unfold rowOK at hr; omega)
  have haR := fun (i : Nat) (hi : i < rungs (M0 190)) => amtS_R hg hr hi
  obtain ⟨s0, s1, s2, s3⟩ := id hS
  obtain ⟨am, ham⟩ : ∃ am : F1, am = amtS (M0 190) (M0 191) (M0 193) (M0 189 3) row := ⟨_, rfl⟩
  rw [← ham] at haR h
  unfold wS3 at h
  rw [← ham] at h
  have hai : ∀ i, am i = if row = -1 then M0 190 (dayS (M0 190) i) else if row = -2 then PD (M0 190) (M0 191) (M0 193) noY (heldF (M0 193)) (M0 189 3) i else payAt (M0 190) (M0 193) row.toNat (rateByS (M0 190) (M0 191) noY) i := fun i => by rw [ham]; rfl
  refine ⟨fun M' x2 => ∃ i : Nat, x2 = (i : Int) ∧ i ≤ rungs (M0 190) ∧ (∀ c, c < i → M' 72 c = am c) ∧ (∀ k j, k ≠ 71 → k ≠ 72 → M' k j = M0 k j), fun _ x2 => (5 - x2).toNat, ⟨0, rfl, Nat.zero_le _, fun c hc => absurd hc (Nat.not_lt_zero _), fun _ _ _ _ => rfl⟩, ?_⟩
  rintro M1 x2 ⟨i, rfl, hi, f1, f2⟩
  unfold wp_X11_reckonRow_B6 wp_X11_reckonRow_b88
  dsimp only
  have e27 : M1 27 0 = (rungs (M0 190) : Int) := by rw [f2 27 0 (by decide) (by decide)]; exact s0
  have hpdN : ∀ i, i < rungs (M0 190) → M0 29 i = M0 190 (dayS (M0 190) i) ∧ M0 30 i = rrS (M0 190) (M0 191) noY i := fun i hi => ⟨(s1 i hi).2.1, (s1 i hi).2.2.1⟩
  have hpa : ∀ b : Nat, (b : Int) < M0 189 3 → ∀ i, i < rungs (M0 190) → M0 (41 + b) i = payAt (M0 190) (M0 193) b (rateByS (M0 190) (M0 191) noY) i := fun b hb i hi => (Scene_bond hS hb).2.1 i hi
  generalize hN' : rungs (M0 190) = N at *
  have hi5 : i ≤ 5 := by omega
  rw [rtv_0_3, rtv_0_10, rtv_0_9, e27, w32n (show N < 2147483648 by omega), w32n (show i < 2147483648 by omega), wm_1, wm_2, hrw, ixn (show i < 2147483648 by omega)]
  refine ⟨fun u => ?_, fun u => ?_⟩
  · have : i = N := by omega
    subst this
    refine reckonWorth_ok (rr := rrS (M0 190) (M0 191) noY) (am := am) hN5 e27 hrr (fun c hc => by rw [f2 30 c (by decide) (by decide)]; exact (hpdN c hc).2) (fun c hc => ⟨f1 c hc, haR c hc⟩) (fun M2 p1 p2 p3 => ?_)
    have fr : FrW M0 M2 := fun k j q => by rw [p3 k j (by omega) (by omega) (by omega), f2 k j (by omega) (by omega)]
    refine h M2 (Inv_FrW hD hI0 fr) (fun k hk => ?_) ?_ p1 p2 (fun k j hk => ?_)
    · rw [← he k hk]
      exact funext fun c => fr k c (by omega)
    · rw [fr 27 0 (by omega)]; exact s0
    · rw [p3 k j (by omega) (by omega) (by omega), f2 k j (by omega) (by omega)]
      exact hf k j (by omega) (by omega)
  have hiN : i < N := by omega
  have nxt : ∀ (z : Int) (M2 : Mem), z = am i → (∀ c, c < i → M2 72 c = am c) → (∀ k j, k ≠ 71 → k ≠ 72 → M2 k j = M0 k j) → ∀ M3 : Mem, M3 = st2 M2 72 i z → (∃ i' : Nat, (i : Int) + 1 = (i' : Int) ∧ i' ≤ N ∧ (∀ c, c < i' → M3 72 c = am c) ∧ (∀ k j, k ≠ 71 → k ≠ 72 → M3 k j = M0 k j)) ∧ (5 - ((i : Int) + 1)).toNat < (5 - (i : Int)).toNat := by
    rintro z M2 hz q1 q2 M3 rfl
    refine ⟨⟨i + 1, by omega, by omega, fun c hc => ?_, fun k j a b => ?_⟩, by omega⟩
    · by_cases q : c = i
      · subst q; rw [st2_s]; exact hz
      · rw [st2_n _ _ (by omega)]; exact q1 c (by omega)
    · rw [st2_off _ _ b]; exact q2 k j a b
  have hai := hai i
  refine ⟨fun u1 => ⟨fun u2 => ?_, fun u2 => ?_⟩, fun u1 => ?_⟩
  · rw [if_neg u1, if_neg u2] at hai
    obtain ⟨b, rfl⟩ : ∃ b : Nat, row = (b : Int) := ⟨row.toNat, by unfold rowOK at hr; omega⟩
    have hb : (b : Int) < M0 189 3 := by unfold rowOK at hr; omega
    have hb5 : b < 5 := by omega
    rw [rtv_27_8, ixn (show b < 2147483648 by omega), rt_40 b hb5]
    refine ⟨inbn LN_40 hb5, inbn (SC_ln14 (Or.inl rfl) b hb5) (by omega), inbn LN_72 (by omega), fun M87 e => nxt _ M1 ?_ f1 f2 M87 e⟩
    rw [hai, f2 (41 + b) i (by omega) (by omega), hpa b hb i hiN, show ((b : Int)).toNat = b by omega]
  · rw [if_neg u1, if_pos (by omega)] at hai
    refine readHeld_ok (n := (M0 189 3).toNat) (by rw [f2 1 4 (by decide) (by decide), m1]; exact (Int.toNat_of_nonneg m2.1).symm) (by omega) (fun M2 r1 r2 r3 => ?_)
    rw [rtv_0_8]
    refine paidByAll_ok (Or.inl rfl) (by omega) LN_71 ⟨inbn LN_72 (by omega), fun M67 e => nxt _ M2 ?_ (fun c hc => by rw [r3 72 c (by decide)]; exact f1 c hc) (fun k j a b => by rw [r3 k j a]; exact f2 k j a b) M67 e⟩
    rw [hai]
    unfold PD pdH
    have sp : ∀ k : Nat, k ≤ 5 → (M0 189 3).toNat ≤ k → sumN (fun b => M2 71 b * M2 (27 + 14 + b) i) k = sumN (fun b => heldF (M0 193) b * payAt (M0 190) (M0 193) b (rateByS (M0 190) (M0 191) noY) i) (M0 189 3).toNat := by
      intro k
      induction k with
      | zero =>
        intro _ q
        rw [show (M0 189 3).toNat = 0 by omega]
        rfl
      | succ k ih =>
        intro q1 q2
        by_cases q : (M0 189 3).toNat = k + 1
        · rw [q]
          refine sumN_congr fun b hb => ?_
          have hb' : (b : Int) < M0 189 3 := by omega
          have t6 := (BookR_t hB0 hb').2.1 6 (by decide)
          rw [show 5 * 6 + b = 30 + b by omega] at t6
          rw [r1 b (by omega), f2 (9 + b) 6 (by omega) (by omega), t6, r3 _ _ (by omega), f2 (27 + 14 + b) i (by omega) (by omega), show 27 + 14 + b = 41 + b by omega, hpa b hb' i hiN]
          rfl
        · show sumN (fun b => M2 71 b * M2 (27 + 14 + b) i) k + M2 71 k * M2 (27 + 14 + k) i = _
          rw [ih (by omega) (by omega), r2 k (by omega) (by omega), Int.zero_mul, Int.add_zero]
    exact sp 5 (by omega) (by omega)
  · rw [if_pos (by omega)] at hai
    rw [rtv_27_2]
    refine ⟨inbn LN_29 (by omega), inbn LN_72 (by omega), fun M36 e => nxt _ M1 ?_ f1 f2 M36 e⟩
    rw [hai, f2 29 i (by decide) (by decide), (hpdN i hiN).1]
theorem isRow_cls {M : Mem} {row : Int} (hr : R32 row) {n : Int} (h4 : M 1 4 = n) (hn : 0 ≤ n ∧ n ≤ 5) {Q : Bool → Prop} : wp_X11_isRow 0 row M Q ↔ Q (decide (-2 ≤ row ∧ row < n)) := by
  unfold wp_X11_isRow
  rw [rtv_0_0, hasBond_iff h4 hn hr, wm_1, wm_2, w32_R hr]
  by_cases q1 : row = -1
  · rw [decide_eq_true (show -2 ≤ row ∧ row < n by omega)]
    exact ⟨fun z => z.1 q1, fun z => ⟨fun _ => z, fun y => absurd q1 y⟩⟩
  · by_cases q2 : row = -2
    · rw [decide_eq_true (show -2 ≤ row ∧ row < n by omega)]
      exact ⟨fun z => (z.2 q1).1 q2, fun z => ⟨fun y => absurd y q1, fun _ => ⟨fun _ => z, fun y => absurd q2 y⟩⟩⟩
    · by_cases q3 : 0 ≤ row ∧ row < n
      · rw [decide_eq_true q3, decide_eq_true (show -2 ≤ row ∧ row < n by omega)]
        exact ⟨fun z => ((z.2 q1).2 q2).2 rfl, fun z => ⟨fun y => absurd y q1, fun _ => ⟨fun y => absurd y q2, fun _ => ⟨fun y => (by cases y), fun _ => z⟩⟩⟩⟩
      · rw [decide_eq_false q3, decide_eq_false (show ¬ (-2 ≤ row ∧ row < n) by omega)]
        exact ⟨fun z => ((z.2 q1).2 q2).1 rfl, fun z => ⟨fun y => absurd y q1, fun _ => ⟨fun y => absurd y q2, fun _ => ⟨fun _ => z, fun y => (by cases y)⟩⟩⟩⟩
theorem isRow_ref {M : Mem} {row : Int} (hr : R32 row) {n : Int} (h3 : M 189 3 = n) (hn : 0 ≤ n ∧ n ≤ 5) {Q : Bool → Prop} : wp_X12_isRow 189 row M Q ↔ Q (decide (-2 ≤ row ∧ row < n)) := by
  unfold wp_X12_isRow
  rw [X12_within_iff, h3, wm_2, w32_R hr, w32_id (z := n - 1) (by omega) (by omega), dec_congr (P' := -2 ≤ row ∧ row < n) (by omega)]
theorem rowOK_of {n row : Int} (h : -2 ≤ row ∧ row < n) : rowOK n row := by unfold rowOK; omega
theorem FrF_flag0 (M : Mem) : FrF M (st2 M 189 8 (bz false)) ∧ fb (st2 M 189 8 (bz false)) 189 8 = false := ⟨fun k j q => st2_n _ _ (by omega), fb_s _ _ _ _⟩
theorem step_12 {DK : Mem → Prop} (hD : KeptH DK) : Step_12 (Inv DK) := by
  intro M hI a1 a2 h1 h2
  obtain ⟨n1, n2⟩ := Inv_n hI
  have bad : ¬ ((-2 ≤ a1 ∧ a1 < M 189 3) ∧ (0 ≤ a2 ∧ a2 ≤ 1)) → wp_X12_worth 189 a1 a2 M (fun r2 M2 => w64 (-9223372036854775808) = w64 r2 ∧ Inv DK M2) := by
    intro nz
    unfold wp_X12_worth
    rw [isRow_ref h1 rfl n2]
    refine dcf (fun z => ?_) (fun _ => ⟨rfl, hI⟩)
    rw [X12_within_iff, wl_0, wl_1, w32_R h2]
    exact dct (fun z2 => absurd ⟨z, z2⟩ nz) (fun _ => ⟨rfl, hI⟩)
  unfold wp_X11_worth wp_X11_isPart
  rw [isRow_cls h1 n1 n2]
  refine dcf (fun e1 => ?_) (fun e1 => bad (fun z => e1 z.1))
  rw [X11_within_iff, wl_0, wl_1, w32_R h2]
  refine dct (fun e2 => ?_) (fun e2 => bad (fun z => e2 z.2))
  refine reckonRow_ok hD hI (rowOK_of e1) (fun M1 hI1 he h27 hw hat hhi => ?_)
  rw [rtv_0_10, rt73.1]
  refine part_ok h2 hw ?_
  obtain ⟨m1, m2⟩ := Inv_n hI1
  unfold wp_X12_worth
  rw [isRow_ref h1 (show M1 189 3 = M 189 3 by rw [he 189 (by decide)]) n2]
  refine dcf (fun _ => ?_) (fun z => absurd e1 z)
  rw [X12_within_iff, wl_0, wl_1, w32_R h2]
  refine dct (fun _ => ?_) (fun z => absurd e2 z)
  rintro M23 rfl
  obtain ⟨fF, f0⟩ := FrF_flag0 M1
  obtain ⟨r1, r2, r3, -, r5, r6, -⟩ := FrF_ref (Inv_RefOK hI1) fF
  have hA := AmtOK_ok r1 (row := a1) (by rw [r6, he 189 (by decide)]; exact rowOK_of e1)
  refine worthOf_ok r1 f0 hA (fun M2 p1 p2 => rpart_ok h2 p1 ⟨?_, Inv_FrF hD hI1 (FrF_trans fF p2)⟩)
  rw [r2, r3, r5, r6, he 190 (by decide), he 191 (by decide), he 193 (by decide), he 189 (by decide)]
  rfl
