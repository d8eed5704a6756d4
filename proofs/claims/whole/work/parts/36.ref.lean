/-! the reference's leaves -/
def RefOK (M : Mem) (y : F1) : Prop :=
  (∀ k, k ≤ 60 → 0 ≤ M 190 k ∧ M 190 k ≤ 99 ∧ 0 ≤ M 191 k ∧ M 191 k ≤ 4 ∧ 0 ≤ M 192 k ∧ M 192 k ≤ 100) ∧ rungs (M 190) ≤ 5 ∧ M 189 5 = (rungs (M 190) : Int) ∧ (∀ i, i < rungs (M 190) → M 194 i = (dayS (M 190) i : Int)) ∧ (∀ i, i < 5 → M 195 i = y i ∧ -1 ≤ y i ∧ y i ≤ 9) ∧ 0 ≤ M 189 3 ∧ M 189 3 ≤ 5 ∧
  ∀ b : Nat, (b : Int) < M 189 3 → (0 ≤ M 193 b ∧ M 193 b ≤ 5) ∧ (1 ≤ M 193 (5 + b) ∧ M 193 (5 + b) ≤ 99) ∧ (0 ≤ M 193 (10 + b) ∧ M 193 (10 + b) ≤ 9) ∧ (1 ≤ M 193 (15 + b) ∧ M 193 (15 + b) ≤ 30) ∧ (1 ≤ M 193 (20 + b) ∧ M 193 (20 + b) ≤ 60) ∧ (1 ≤ M 193 (25 + b) ∧ M 193 (25 + b) ≤ 60) ∧ (0 ≤ M 193 (30 + b) ∧ M 193 (30 + b) ≤ 99)
theorem Inv_RefOK {DK : Mem → Prop} {M : Mem} (hI : Inv DK M) : RefOK M noY := by
  obtain ⟨hB, hK, hR, -⟩ := hI
  refine ⟨fun k hk => ?_, hB.2.2.1, hR.1, hR.2.1, fun i hi => ⟨hR.2.2 i hi, noY_r i⟩, hB.2.2.2.2.2.2.1, hB.2.2.2.2.2.2.2.1, fun b hb => (BookR_t hB hb).2.2⟩
  obtain ⟨u1, u2, u3, u4, u5, u6, u7, u8, u9⟩ := InvB_R hB hk
  exact ⟨u2, u3, u5, u6, u8, u9⟩
/-- the cells that the reference's leaves read -/
theorem RefOK_same {M M2 : Mem} {y : F1} (h : RefOK M y) (h1 : M2 190 = M 190) (h2 : M2 191 = M 191) (h3 : M2 192 = M 192) (h4 : M2 193 = M 193) (h5 : M2 194 = M 194) (h6 : M2 195 = M 195) (h7 : M2 189 3 = M 189 3) (h8 : M2 189 5 = M 189 5) : RefOK M2 y := by
  unfold RefOK at *
  rw [h1, h2, h3, h4, h5, h6, h7, h8]
  exact h
theorem rateOf_ok {M : Mem} {Q : Int → Prop} {k : Nat} (hk : k ≤ 60) (hr : ∀ k, k ≤ 60 → 0 ≤ M 191 k ∧ M 191 k ≤ 4) (h : Q (rateS (M 191) k)) : wp_X12_rateOf 189 (k : Int) M Q := by
  refine ⟨fun x2 => ∃ m : Nat, x2 = (m : Int) ∧ m ≤ k ∧ rateS (M 191) m = rateS (M 191) k, fun x2 => x2.toNat, ⟨k, rfl, Nat.le_refl _, rfl⟩, ?_⟩
  rintro x2 ⟨m, rfl, hm, e⟩
  unfold wp_X12_rateOf_B2 wp_X12_rateOf_b21
  dsimp only
  rw [w32n (show m < 2147483648 by omega), ixn (show m < 2147483648 by omega), rtv_189_1]
  have hrm := hr m (by omega)
  rw [w32_id (z := M 191 m) (by omega) (by omega)]
  refine ⟨fun u => ⟨fun u2 => absurd (show (m : Int) = 0 by omega) u2, fun u2 => ?_⟩, fun u => ⟨inbn LN_191 (by omega), fun u2 => ⟨fun u3 => ⟨inbn LN_191 (by omega), ?_⟩, fun u3 => absurd (show ¬ (m : Int) = 0 by omega) u3⟩, fun u2 => ?_⟩⟩
  · have : m = 0 := by omega
    subst this
    rw [← e] at h
    exact h
  · obtain ⟨n, rfl⟩ : ∃ n, m = n + 1 := ⟨m - 1, by omega⟩
    rw [← e] at h
    unfold rateS at h
    rw [if_neg u2] at h
    exact h
  · obtain ⟨n, rfl⟩ : ∃ n, m = n + 1 := ⟨m - 1, by omega⟩
    refine ⟨⟨n, by omega, by omega, ?_⟩, by omega⟩
    rw [← e]
    show _ = if M 191 (n + 1) = 0 then rateS (M 191) n else M 191 (n + 1) - 1
    rw [if_pos (by omega)]
theorem rungFor_gen {M : Mem} {Q : Int → Prop} {k N c : Nat} {D : Nat → Nat} (hk : k ≤ 60) (h0 : M 189 5 = (N : Int)) (hN : N ≤ 5) (hD : ∀ i, i < N → M 194 i = (D i : Int) ∧ D i ≤ 60) (hle : ∀ i, i < N → (k ≤ D i ↔ c ≤ i)) (h : Q (if c < N then (c : Int) else -1)) : wp_X12_rungFor 189 (k : Int) M Q := by
  refine ⟨fun x2 => ∃ i : Nat, x2 = (i : Int) ∧ i ≤ N ∧ i ≤ c, fun x2 => ((N : Int) - x2).toNat, ⟨0, rfl, Nat.zero_le _, Nat.zero_le _⟩, ?_⟩
  rintro x2 ⟨i, rfl, hi, hc⟩
  unfold wp_X12_rungFor_B2
  dsimp only
  rw [h0, w32n (show N < 2147483648 by omega), w32n (show i < 2147483648 by omega), w32n (show k < 2147483648 by omega), ixn (show i < 2147483648 by omega), rtv_189_6]
  refine ⟨fun u => ?_, fun u => ?_⟩
  · rw [if_neg (by omega)] at h
    exact h
  · obtain ⟨d1, d2⟩ := hD i (by omega)
    have := hle i (by omega)
    rw [d1, w32n (show D i < 2147483648 by omega)]
    refine ⟨inbn LN_194 (by omega), fun u2 => ⟨⟨i + 1, by omega, by omega, by omega⟩, by omega⟩, fun u2 => ?_⟩
    have : i = c := by omega
    subst this
    rw [if_pos (by omega)] at h
    exact h
theorem rungFor_ok {M : Mem} {y : F1} (hR : RefOK M y) {Q : Int → Prop} {k : Nat} (h1 : 1 ≤ k) (hk : k ≤ 60) (h : Q (rungForS (M 190) k)) : wp_X12_rungFor 189 (k : Int) M Q :=
  rungFor_gen (N := rungs (M 190)) (c := cnt (M 190) (k - 1)) (D := dayS (M 190)) hk hR.2.2.1 hR.2.1 (fun i hi => ⟨hR.2.2.2.1 i hi, (dayS_ok hi).2.1⟩) (fun _ hi => rung_le hi h1) h
theorem rateBy_ok {M : Mem} {y : F1} (hR : RefOK M y) {Q : Int → Prop} {k : Nat} (h1 : 1 ≤ k) (hk : k ≤ 60) (h : Q (rateByS (M 190) (M 191) y k)) : wp_X12_rateBy 189 (k : Int) M Q := by
  unfold wp_X12_rateBy wp_X12_rateBy_b21
  refine rungFor_ok hR h1 hk ?_
  unfold rungForS
  unfold rateByS at h
  have hr : ∀ k, k ≤ 60 → 0 ≤ M 191 k ∧ M 191 k ≤ 4 := fun k hk => ⟨(hR.1 k hk).2.2.1, (hR.1 k hk).2.2.2.1⟩
  have hN := hR.2.1
  have hY := hR.2.2.2.2.1
  generalize cnt (M 190) (k - 1) = c at *
  generalize rungs (M 190) = N at *
  rw [wm_1]
  by_cases q : c < N
  · rw [if_pos q, w32n (show c < 2147483648 by omega), ixn (show c < 2147483648 by omega), rtv_189_7]
    obtain ⟨y1, y2, y3⟩ := hY c (by omega)
    rw [y1, w32_id (z := y c) (by omega) (by omega)]
    refine ⟨fun u => by omega, fun u => ⟨inbn LN_195 (by omega), fun u2 => ⟨inbn LN_195 (by omega), ?_⟩, fun u2 => ?_⟩⟩
    · rw [if_pos ⟨q, u2⟩] at h
      exact h
    · rw [if_neg (fun z => u2 z.2)] at h
      exact rateOf_ok hk hr h
  · rw [if_neg q, wm_1]
    rw [if_neg (fun z => q z.1)] at h
    exact ⟨fun _ => rateOf_ok hk hr h, fun u => absurd rfl u⟩
theorem of_ok {b w : Nat} {x : Int} {M : Mem} {Q : Int → Prop} (hx : x = (w : Int)) (hb : b < 5) (hw : w < 7) (h : Q (M 193 (5 * w + b))) : wp_X12_of 189 (b : Int) x M Q := by
  unfold wp_X12_of
  rw [hx, rtv_189_4, show 5 * (w : Int) + (b : Int) = ((5 * w + b : Nat) : Int) by omega, ixn (show 5 * w + b < 2147483648 by omega)]
  exact ⟨inbn LN_193 (by omega), h⟩
theorem calledOn_ok {M : Mem} {y : F1} (hR : RefOK M y) {Q : Int → Prop} {b : Nat} (hb : (b : Int) < M 189 3) (h : Q ((calledUp (rateByS (M 190) (M 191) y) (M 193 (15 + b)).toNat (M 193 (20 + b)).toNat 60 : Nat) : Int)) : wp_X12_calledOn 189 (b : Int) M Q := by
  have hb5 : b < 5 := by have := hR.2.2.2.2.2.2.1; omega
  obtain ⟨w2, w3, w4, w5, w6, w7, w8⟩ := hR.2.2.2.2.2.2.2 b hb
  obtain ⟨st, hst⟩ : ∃ st : Nat, M 193 (15 + b) = (st : Int) := ⟨(M 193 (15 + b)).toNat, by omega⟩
  obtain ⟨en, hen⟩ : ∃ en : Nat, M 193 (20 + b) = (en : Int) := ⟨(M 193 (20 + b)).toNat, by omega⟩
  rw [hst, hen] at h
  rw [show ((st : Int)).toNat = st by omega, show ((en : Int)).toNat = en by omega] at h
  have hrr : ∀ k, k ≤ 60 → 0 ≤ rateByS (M 190) (M 191) y k ∧ rateByS (M 190) (M 191) y k ≤ 9 := fun k hk => rateByS_range (d := M 190) (r := M 191) (y := y) hR.2.1 (fun k hk => ⟨(hR.1 k hk).2.2.1, (hR.1 k hk).2.2.2.1⟩) (fun i hi => (hR.2.2.2.2.1 i hi).2) hk
  have hby : ∀ k, 1 ≤ k → k ≤ 60 → ∀ P : Int → Prop, P (rateByS (M 190) (M 191) y k) → wp_X12_rateBy 189 (k : Int) M P := fun k a b P hP => rateBy_ok hR a b hP
  generalize rateByS (M 190) (M 191) y = R at *
  unfold wp_X12_calledOn
  refine of_ok (w := 3) rfl hb5 (by decide) ?_
  rw [show 5 * 3 + b = 15 + b by omega, hst]
  refine ⟨fun x2 => ∃ q : Nat, x2 = ((st * q + st : Nat) : Int) ∧ st * q + st ≤ 90 ∧ ∀ j, 1 ≤ j → j < st * q + st → ¬ (j % st = 0 ∧ j < en ∧ R j = 0), fun x2 => (90 - x2).toNat, ⟨0, by rw [Nat.mul_zero, Nat.zero_add], by omega, fun j j1 j2 z => ?_⟩, ?_⟩
  · rw [Nat.mul_zero, Nat.zero_add] at j2
    rw [Nat.mod_eq_of_lt j2] at z
    omega
  rintro x2 ⟨q, rfl, hq, hno⟩
  unfold wp_X12_calledOn_B7
  dsimp only
  refine of_ok (w := 4) rfl hb5 (by decide) ?_
  rw [show 5 * 4 + b = 20 + b by omega, hen, w32n (show en < 2147483648 by omega), w32n (show st * q + st < 2147483648 by omega)]
  generalize hX : st * q + st = X at *
  have hmod : X % st = 0 := by
    rw [← hX, Nat.mul_add_mod, Nat.mod_self]
  refine ⟨fun u => ?_, fun u => ?_⟩
  · refine of_ok (w := 4) rfl hb5 (by decide) ?_
    rw [show 5 * 4 + b = 20 + b by omega, hen]
    have : ∀ m, m ≤ 60 → calledUp R st en m = en := fun m _ => calledUp_no m (fun j j1 j2 z => hno j j1 (by omega) z)
    rw [this 60 (Nat.le_refl _)] at h
    exact h
  · have hX1 : 1 ≤ X := by omega
    refine hby X hX1 (by omega) _ ?_
    have := hrr X (by omega)
    rw [w32_id (z := R X) (by omega) (by omega)]
    refine ⟨fun u2 => ?_, fun u2 => ?_⟩
    · refine of_ok (w := 3) rfl hb5 (by decide) ?_
      rw [show 5 * 3 + b = 15 + b by omega, hst]
      refine ⟨⟨q + 1, ?_, ?_, fun j j1 j2 z => ?_⟩, by omega⟩
      · rw [Nat.mul_add, Nat.mul_one, hX]; omega
      · rw [Nat.mul_add, Nat.mul_one, hX]; omega
      · rw [Nat.mul_add, Nat.mul_one, hX] at j2
        rcases Nat.lt_trichotomy j X with c | c | c
        · exact hno j j1 c z
        · subst c; exact u2 z.2.2
        · obtain ⟨e, rfl⟩ : ∃ e, j = st * (q + 1) + e := ⟨j - X, by rw [Nat.mul_add, Nat.mul_one, hX]; omega⟩
          rw [Nat.mul_add_mod] at z
          rw [Nat.mul_add, Nat.mul_one, hX] at c j2
          rw [Nat.mod_eq_of_lt (by omega)] at z
          omega
    · rw [calledUp_at hX1 (fun j a c => hno j a c) ⟨hmod, by omega, by omega⟩ 60 (by omega)] at h
      exact h
theorem paysOn_ok {M : Mem} {y : F1} (hR : RefOK M y) {Q : Int → Prop} {b k : Nat} (hb : (b : Int) < M 189 3) (h1 : 1 ≤ k) (hk : k ≤ 60) (h : Q (payT (M 193) b (rateByS (M 190) (M 191) y) k)) : wp_X12_paysOn 189 (b : Int) (k : Int) M Q := by
  have hb5 : b < 5 := by have := hR.2.2.2.2.2.2.1; omega
  obtain ⟨w2, w3, w4, w5, w6, w7, w8⟩ := hR.2.2.2.2.2.2.2 b hb
  have hco := fun (P : Int → Prop) => calledOn_ok (Q := P) hR hb
  have hby : ∀ P : Int → Prop, P (rateByS (M 190) (M 191) y k) → wp_X12_rateBy 189 (k : Int) M P := fun P hP => rateBy_ok hR h1 hk hP
  obtain ⟨st, hst⟩ : ∃ st : Nat, M 193 (15 + b) = (st : Int) := ⟨(M 193 (15 + b)).toNat, by omega⟩
  obtain ⟨en, hen⟩ : ∃ en : Nat, M 193 (20 + b) = (en : Int) := ⟨(M 193 (20 + b)).toNat, by omega⟩
  unfold payT at h
  rw [hst, hen] at h hco
  rw [show ((st : Int)).toNat = st by omega, show ((en : Int)).toNat = en by omega] at h hco
  rw [hst] at w5
  rw [hen] at w6
  generalize rateByS (M 190) (M 191) y = R at *
  have o0 := fun (P : Int → Prop) (hP : P (M 193 b)) => of_ok (w := 0) (x := 0) (b := b) (M := M) (Q := P) rfl hb5 (by decide) (by rw [show 5 * 0 + b = b by omega]; exact hP)
  have o3 := fun (P : Int → Prop) (hP : P (st : Int)) => of_ok (w := 3) (x := 3) (b := b) (M := M) (Q := P) rfl hb5 (by decide) (by rw [show 5 * 3 + b = 15 + b by omega, hst]; exact hP)
  generalize hkd : M 193 b = kind at *
  generalize hcp : M 193 (10 + b) = coupon at *
  generalize hpy : M 193 (25 + b) = pay at *
  unfold wp_X12_paysOn
  refine of_ok (w := 2) rfl hb5 (by decide) (of_ok (w := 4) rfl hb5 (by decide) (of_ok (w := 5) rfl hb5 (by decide) ?_))
  rw [show 5 * 2 + b = 10 + b by omega, show 5 * 4 + b = 20 + b by omega, show 5 * 5 + b = 25 + b by omega, hcp, hen, hpy, w32n (show en < 2147483648 by omega), w32n (show k < 2147483648 by omega)]
  have e2 : (2 : Int) ≠ 0 := by decide
  -- behind the tests
  have main : ¬ (k > en ∨ (k ≠ en ∧ k % st ≠ 0)) → wp_X12_paysOn_b48 189 Q M (b : Int) (k : Int) coupon (en : Int) pay := by
    intro hn
    unfold payS at h
    rw [if_neg hn] at h
    have hke : k ≤ en := by omega
    have b92 : ∀ (s0 J : Int), s0 = (if k = en then pay else 0) → J = (((if k = en then (en - 1) / st else k / st - 1 : Nat)) : Int) → wp_X12_paysOn_b92 189 Q M s0 (b : Int) (k : Int) coupon (en : Int) pay J := by
      intro s0 J hs0 hJ
      have hJr : 0 ≤ J ∧ J ≤ 60 := by
        rw [hJ]
        have a1 := Nat.div_le_self (en - 1) st
        have a2 := Nat.div_le_self k st
        refine ⟨Int.natCast_nonneg _, ?_⟩
        split <;> omega
      rw [← hJ, ← hs0] at h
      dsimp only at h
      clear hJ
      unfold wp_X12_paysOn_b92 wp_X12_paysOn_b167
      refine o0 _ ?_
      rw [wl_2, w32_id (z := kind) (by omega) (by omega), w32_id (z := J) (by omega) (by omega), w32_id (z := pay) (by omega) (by omega), w32n (show k < 2147483648 by omega), w32n (show en < 2147483648 by omega), Int.tdiv_eq_ediv_of_nonneg (by omega)]
      have c : kind = 0 ∨ kind = 1 ∨ kind = 2 ∨ kind = 3 ∨ kind = 4 ∨ kind = 5 := by omega
      rcases c with rfl | rfl | rfl | rfl | rfl | rfl
      · refine ⟨fun _ => h, fun z => by omega, fun z => by omega, fun z => by omega, fun z => by omega, fun z => by omega⟩
      · refine ⟨fun z => by omega, fun _ => h, fun z => by omega, fun z => by omega, fun z => by omega, fun z => by omega⟩
      · refine ⟨fun z => by omega, fun z => by omega, fun _ => h, fun z => by omega, fun z => by omega, fun z => by omega⟩
      · refine ⟨fun z => by omega, fun z => by omega, fun z => by omega, fun _ => ⟨fun u => ⟨fun v => ?_, fun v => ⟨e2, ?_⟩⟩, fun u => ⟨e2, fun v => ?_, fun v => ⟨e2, ?_⟩⟩⟩, fun z => by omega, fun z => by omega⟩
        · have v : ¬ k = en := by omega
          simpa [u, v] using h
        · have v : k = en := by omega
          simpa [u, v] using h
        · have u : J = 0 := by omega
          have v : ¬ k = en := by omega
          simpa [u, v] using h
        · have u : J = 0 := by omega
          have v : k = en := by omega
          simpa [u, v] using h
      · refine ⟨fun z => by omega, fun z => by omega, fun z => by omega, fun z => by omega, fun _ => hby _ h, fun z => by omega⟩
      · refine ⟨fun z => by omega, fun z => by omega, fun z => by omega, fun z => by omega, fun z => by omega, fun _ => hco _ ?_⟩
        have hcl := calledUp_le (R := R) (step := st) (en := en) 60
        generalize calledUp R st en 60 = cl at *
        rw [w32n (show cl < 2147483648 by omega)]
        have f5 : ¬ (5 : Int) = 0 ∧ ¬ (5 : Int) = 1 ∧ ¬ (5 : Int) = 2 ∧ ¬ (5 : Int) = 3 ∧ ¬ (5 : Int) = 4 := by decide
        rw [if_neg f5.1, if_neg f5.2.1, if_neg f5.2.2.1, if_neg f5.2.2.2.1, if_neg f5.2.2.2.2] at h
        refine ⟨fun u => ⟨fun u2 => ?_, fun u2 => ?_⟩, fun u => ?_⟩
        · rw [if_neg (by omega), if_neg (by omega)] at h; exact h
        · rw [if_neg (by omega), if_pos (by omega)] at h; exact h
        · rw [if_pos (by omega)] at h; exact h
    unfold wp_X12_paysOn_b48 wp_X12_paysOn_b78
    rw [w32n (show en < 2147483648 by omega), w32n (show k < 2147483648 by omega)]
    refine ⟨fun u => o3 _ ⟨by rw [w32n (by omega)]; omega, fun u2 => b92 _ _ ?_ ?_, fun u2 => absurd u u2⟩, fun u => o3 _ ⟨by rw [w32n (by omega)]; omega, fun u2 => absurd u2 u, fun u2 => b92 _ _ ?_ ?_⟩⟩
    · rw [if_neg (by omega)]
    · rw [if_neg (by omega), w32n (show st < 2147483648 by omega), Int.tdiv_eq_ediv_of_nonneg (by omega)]
      have hz : k % st = 0 := by omega
      have hd : 1 ≤ k / st := by
        have := Nat.div_add_mod k st
        rcases Nat.eq_zero_or_pos (k / st) with z | z
        · rw [z] at this; omega
        · exact z
      rw [← Int.natCast_ediv]
      omega
    · rw [if_pos (by omega)]
    · rw [if_pos (by omega), w32n (show st < 2147483648 by omega), show (en : Int) - 1 = ((en - 1 : Nat) : Int) by omega, w32n (show en - 1 < 2147483648 by omega), Int.tdiv_eq_ediv_of_nonneg (by omega), ← Int.natCast_ediv]
  refine ⟨fun u => ?_, fun u => ⟨fun u2 => main (by omega), fun u2 => o3 _ ?_⟩⟩
  · rw [payS_off (by omega)] at h; exact h
  · rw [w32n (show st < 2147483648 by omega), Int.tmod_eq_emod_of_nonneg (by omega), ← Int.natCast_emod, w32n (show k % st < 2147483648 by have := Nat.mod_lt k (show 0 < st by omega); omega)]
    refine ⟨by omega, fun u3 => main (by omega), fun u3 => ?_⟩
    rw [payS_off (by omega)] at h; exact h
