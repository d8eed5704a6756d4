/-! tests of places, told as decisions -/
theorem dct {P A B : Prop} {d : Decidable P} (h1 : P → A) (h2 : ¬ P → B) : (@decide P d = true → A) ∧ (@decide P d = false → B) := ⟨fun e => h1 (of_decide_eq_true e), fun e => h2 (of_decide_eq_false e)⟩
theorem dcf {P A B : Prop} {d : Decidable P} (h1 : P → A) (h2 : ¬ P → B) : (@decide P d = false → B) ∧ (@decide P d = true → A) := ⟨fun e => h2 (of_decide_eq_false e), fun e => h1 (of_decide_eq_true e)⟩
theorem hasRung_iff {s : Nat} {a : Int} {M : Mem} {Q : Bool → Prop} {N : Nat} (h0 : M s 0 = (N : Int)) (hN : N ≤ 5) (ha : R32 a) : wp_X8_hasRung s a M Q ↔ Q (decide (0 ≤ a ∧ a < (N : Int))) := by
  unfold wp_X8_hasRung
  rw [h0, w32n (show N < 2147483648 by omega), w32_R ha]
  grind
theorem hasBond_iff {s : Nat} {a n : Int} {M : Mem} {Q : Bool → Prop} (h0 : M s 4 = n) (hN : 0 ≤ n ∧ n ≤ 5) (ha : R32 a) : wp_X1_hasBond s a M Q ↔ Q (decide (0 ≤ a ∧ a < n)) := by
  unfold wp_X1_hasBond
  rw [h0, w32_id (z := n) (by omega) (by omega), w32_R ha]
  grind
theorem dec_congr {P P' : Prop} {d : Decidable P} {d' : Decidable P'} (h : P ↔ P') : @decide P d = @decide P' d' := by
  by_cases q : P
  · rw [decide_eq_true q, decide_eq_true (h.mp q)]
  · rw [decide_eq_false q, decide_eq_false (fun z => q (h.mpr z))]
theorem isRung_iff {a : Int} {M : Mem} {Q : Bool → Prop} {N : Nat} (h0 : M 189 5 = (N : Int)) (hN : N ≤ 5) (ha : R32 a) : wp_X12_isRung 189 a M Q ↔ Q (decide (0 ≤ a ∧ a < (N : Int))) := by
  unfold wp_X12_isRung
  rw [X12_within_iff, h0, wl_0, w32_R ha, w32_id (z := (N : Int) - 1) (by omega) (by omega)]
  rw [dec_congr (P' := 0 ≤ a ∧ a < (N : Int)) (by omega)]
theorem isBond_iff {a n : Int} {M : Mem} {Q : Bool → Prop} (h0 : M 189 3 = n) (hN : 0 ≤ n ∧ n ≤ 5) (ha : R32 a) : wp_X12_isBond 189 a M Q ↔ Q (decide (0 ≤ a ∧ a < n)) := by
  unfold wp_X12_isBond
  rw [X12_within_iff, h0, wl_0, w32_R ha, w32_id (z := n - 1) (by omega) (by omega)]
  rw [dec_congr (P' := 0 ≤ a ∧ a < n) (by omega)]
theorem Inv_n {DK : Mem → Prop} {M : Mem} (hI : Inv DK M) : M 1 4 = M 189 3 ∧ 0 ≤ M 189 3 ∧ M 189 3 ≤ 5 := ⟨hI.1.2.2.2.2.2.1, hI.1.2.2.2.2.2.2.1, hI.1.2.2.2.2.2.2.2.1⟩
theorem rateByS_noY (d r : F1) (k : Nat) : rateByS d r noY k = rateS r k := by
  unfold rateByS noY
  rw [if_neg (fun z => z.2 rfl)]
theorem natOf {a : Int} {n : Nat} (h : 0 ≤ a ∧ a < (n : Int)) : ∃ i : Nat, a = (i : Int) ∧ i < n := ⟨a.toNat, by omega, by omega⟩
theorem natOfI {a n : Int} (h : 0 ≤ a ∧ a < n) : ∃ i : Nat, a = (i : Int) ∧ (i : Int) < n := ⟨a.toNat, by omega, by omega⟩
theorem step_3 {DK : Mem → Prop} : Step_3 (Inv DK) := by
  intro M hI a1 a2 h1 h2
  unfold wp_X11_rung
  rw [X11_within_iff, wl_0, wl_3, w32_R h2]
  refine dct (fun e => ?_) (fun e => ?_)
  case refine_2 =>
    dsimp only
    unfold wp_X12_rung
    rw [X12_within_iff, wl_0, wl_3, w32_R h2]
    exact dct (fun z => absurd z e) (fun _ => ⟨rfl, hI⟩)
  refine look_ok hI (fun M1 hI1 hS _ _ => ?_)
  have hR := Inv_RefOK hI1
  have hN5 := hR.2.1
  have hDk := fun i (hi : i < rungs (M1 190)) => dayS_ok (d := M1 190) hi
  have hMD := hR.2.2.2.1
  have h05 := hR.2.2.1
  obtain ⟨s0, s1, s2, s3⟩ := hS
  have hk := hR.1
  generalize rungs (M1 190) = N at *
  generalize hDD : dayS (M1 190) = D at *
  have key : ∀ r : Int, (∀ i : Nat, a1 = (i : Int) → i < N → r = if a2 = 0 then (D i : Int) else if a2 = 1 then M1 190 (D i) else if a2 = 2 then rateS (M1 191) (D i) else M1 192 (D i) - 1) → (¬ (0 ≤ a1 ∧ a1 < (N : Int)) → r = -12) → wp_X12_rung 189 a1 a2 M1 (fun r2 => w32 r = w32 r2 ∧ Inv DK M1) := by
    intro r c1 c2
    unfold wp_X12_rung
    rw [X12_within_iff, wl_0, wl_3, w32_R h2]
    refine dct (fun _ => ?_) (fun z => absurd e z)
    rw [isRung_iff h05 hN5 h1]
    refine dct (fun z => ?_) (fun z => ?_)
    · obtain ⟨i, rfl, hi⟩ := natOf z
      have c := c1 i rfl hi
      rw [ixn (show i < 2147483648 by omega), rtv_189_6, rtv_189_2, rtv_189_0, hMD i hi, wl_1, wl_2]
      have hd := hDk i hi
      rw [ixn (show D i < 2147483648 by omega)]
      refine ⟨inbn LN_194 (by omega), fun u => ⟨fun u2 => ⟨fun u3 => ⟨inbn LN_192 (by omega), ?_, hI1⟩, fun u3 => rateOf_ok (by omega) (fun k hk2 => ⟨(hk k hk2).2.2.1, (hk k hk2).2.2.2.1⟩) ⟨?_, hI1⟩⟩, fun u2 => ⟨inbn LN_190 (by omega), ?_, hI1⟩⟩, fun u => ⟨?_, hI1⟩⟩
      · rw [c, if_neg u, if_neg u2, if_neg u3]
      · rw [c, if_neg u, if_neg u2, if_pos (by omega)]
      · rw [c, if_neg u, if_pos (by omega)]
      · rw [c, if_pos (by omega)]
    · rw [c2 z]; exact ⟨rfl, hI1⟩
  rw [rtv_0_3, hasRung_iff s0 hN5 h1]
  refine dct (fun z => ?_) (fun z => key _ (fun i hi hi2 => absurd ⟨by omega, by omega⟩ z) (fun _ => rfl))
  obtain ⟨i, rfl, hi⟩ := natOf z
  obtain ⟨v1, v2, v3, v4⟩ := s1 i hi
  rw [rtv_27_1, rtv_27_2, rtv_27_3, rtv_27_4, ixn (show i < 2147483648 by omega)]
  refine ⟨fun u => ⟨inbn LN_28 (by omega), key _ (fun j hj _ => ?_) (fun q => absurd z q)⟩, fun u => ⟨inbn LN_29 (by omega), key _ (fun j hj _ => ?_) (fun q => absurd z q)⟩, fun u => ⟨inbn LN_30 (by omega), key _ (fun j hj _ => ?_) (fun q => absurd z q)⟩, fun u => ⟨inbn LN_31 (by omega), key _ (fun j hj _ => ?_) (fun q => absurd z q)⟩⟩
  · have : j = i := by omega
    subst this
    rw [if_pos u]; exact v1
  · have : j = i := by omega
    subst this
    rw [if_neg (by omega), if_pos u]; exact v2
  · have : j = i := by omega
    subst this
    rw [if_neg (by omega), if_neg (by omega), if_pos u, v3, rateByS_noY]
  · have : j = i := by omega
    subst this
    rw [if_neg (by omega), if_neg (by omega), if_neg (by omega)]; exact v4
theorem step_4 {DK : Mem → Prop} : Step_4 (Inv DK) := by
  intro M hI a1 a2 h1 h2
  unfold wp_X11_day wp_X11_isDay
  have bad : ∀ M1, Inv DK M1 → ¬ ((1 ≤ a1 ∧ a1 ≤ 60) ∧ (0 ≤ a2 ∧ a2 ≤ 1)) → wp_X12_day 189 a1 a2 M1 (fun r2 => w32 (-2) = w32 r2 ∧ Inv DK M1) := by
    intro M1 hI1 e
    unfold wp_X12_day wp_X12_isDay
    rw [X12_within_iff, wl_1, wl_60, w32_R h1]
    refine dcf (fun z => ?_) (fun _ => ⟨rfl, hI1⟩)
    rw [X12_within_iff, wl_0, wl_1, w32_R h2]
    exact dct (fun z2 => absurd ⟨z, z2⟩ e) (fun _ => ⟨rfl, hI1⟩)
  rw [X11_within_iff, wl_1, wl_60, w32_R h1]
  refine dcf (fun e => ?_) (fun e => bad M hI (fun z => e z.1))
  rw [X11_within_iff, wl_0, wl_1, w32_R h2]
  refine dct (fun e2 => ?_) (fun e2 => bad M hI (fun z => e2 z.2))
  refine look_ok hI (fun M1 hI1 hS _ _ => ?_)
  have hR := Inv_RefOK hI1
  obtain ⟨s0, s1, s2, s3⟩ := hS
  obtain ⟨k, rfl⟩ : ∃ k : Nat, a1 = (k : Int) := ⟨a1.toNat, by omega⟩
  obtain ⟨v1, v2⟩ := s2 k (by omega) (by omega)
  have key : ∀ r : Int, (r = if a2 = 0 then rateS (M1 191) k else rungForS (M1 190) k) → wp_X12_day 189 (k : Int) a2 M1 (fun r2 => w32 r = w32 r2 ∧ Inv DK M1) := by
    intro r c
    unfold wp_X12_day wp_X12_isDay
    rw [X12_within_iff, wl_1, wl_60, w32_R h1]
    refine dcf (fun z => ?_) (fun z => absurd e z)
    rw [X12_within_iff, wl_0, wl_1, w32_R h2]
    refine dct (fun z2 => ?_) (fun z2 => absurd e2 z2)
    refine ⟨fun u => rungFor_ok hR (by omega) (by omega) ⟨?_, hI1⟩, fun u => rateOf_ok (by omega) (fun k hk2 => ⟨(hR.1 k hk2).2.2.1, (hR.1 k hk2).2.2.2.1⟩) ⟨?_, hI1⟩⟩
    · rw [c, if_neg u]
    · rw [c, if_pos (by omega)]
  rw [rtv_0_3, rtv_27_5, rtv_27_6, ixn (show k < 2147483648 by omega)]
  refine ⟨fun u => ⟨inbn LN_32 (by omega), key _ ?_⟩, fun u => ⟨inbn LN_33 (by omega), key _ ?_⟩⟩
  · rw [if_neg u]; exact v1
  · rw [if_pos (by omega), ← rateByS_noY (M1 190)]; exact v2
theorem Scene_bond {M : Mem} {d r l t y : F1} {n : Int} (hS : SceneOK M 27 d r l t y n) {b : Nat} (hb : (b : Int) < n) : (∀ k, 1 ≤ k → k ≤ 60 → M (35 + b) k = payT t b (rateByS d r y) k) ∧ (∀ i, i < rungs d → M (41 + b) i = payAt d t b (rateByS d r y) i) ∧ M 46 b = allS d t b (rateByS d r y) (rungs d) ∧ M 47 b = lastS d t b (rateByS d r y) (rungs d) := hS.2.2.2 b hb
theorem step_8 {DK : Mem → Prop} : Step_8 (Inv DK) := by
  intro M hI a1 a2 h1 h2
  unfold wp_X11_pays wp_X11_isDay
  obtain ⟨n1, n2⟩ := Inv_n hI
  have bad : ¬ ((0 ≤ a1 ∧ a1 < M 189 3) ∧ (1 ≤ a2 ∧ a2 ≤ 60)) → wp_X12_pays 189 a1 a2 M (fun r2 => w32 (-2) = w32 r2 ∧ Inv DK M) := by
    intro e
    unfold wp_X12_pays wp_X12_isDay
    rw [isBond_iff rfl n2 h1]
    refine dcf (fun z => ?_) (fun _ => ⟨rfl, hI⟩)
    rw [X12_within_iff, wl_1, wl_60, w32_R h2]
    exact dcf (fun z2 => absurd ⟨z, z2⟩ e) (fun _ => ⟨rfl, hI⟩)
  rw [rtv_0_0, hasBond_iff n1 n2 h1]
  refine dcf (fun e => ?_) (fun e => bad (fun z => e z.1))
  rw [X11_within_iff, wl_1, wl_60, w32_R h2]
  refine dct (fun e2 => ?_) (fun e2 => bad (fun z => e2 z.2))
  refine look_ok hI (fun M1 hI1 hS _ hf => ?_)
  have hR := Inv_RefOK hI1
  have e3 : M1 189 3 = M 189 3 := hf 189 3 (by omega) (by omega)
  obtain ⟨b, rfl, hb⟩ := natOfI (n := M1 189 3) (a := a1) (by rw [e3]; exact e)
  obtain ⟨k, rfl⟩ : ∃ k : Nat, a2 = (k : Int) := ⟨a2.toNat, by omega⟩
  obtain ⟨n1', n2'⟩ := Inv_n hI1
  have hb5 : b < 5 := by omega
  rw [rtv_0_3, rtv_27_7, ixn (show b < 2147483648 by omega), ixn (show k < 2147483648 by omega), rt_34 b hb5]
  refine ⟨inbn LN_34 hb5, inbn (SC_ln8 (Or.inl rfl) b hb5) (by omega), ?_⟩
  dsimp only
  unfold wp_X12_pays wp_X12_isDay
  rw [isBond_iff rfl n2' h1]
  refine dcf (fun z => ?_) (fun z => absurd (by rw [e3]; exact e) z)
  rw [X12_within_iff, wl_1, wl_60, w32_R h2]
  refine dcf (fun z2 => ?_) (fun z2 => absurd e2 z2)
  refine paysOn_ok hR hb (by omega) (by omega) ⟨?_, hI1⟩
  rw [(Scene_bond hS hb).1 k (by omega) (by omega)]
theorem step_9 {DK : Mem → Prop} : Step_9 (Inv DK) := by
  intro M hI a1 a2 h1 h2
  unfold wp_X11_paysAt
  obtain ⟨n1, n2⟩ := Inv_n hI
  rw [rtv_0_0, hasBond_iff n1 n2 h1]
  refine dct (fun e => ?_) (fun e => ?_)
  case refine_2 =>
    dsimp only
    unfold wp_X12_paysAt
    rw [isBond_iff rfl n2 h1]
    exact dct (fun z => absurd z e) (fun _ => ⟨rfl, hI⟩)
  refine look_ok hI (fun M1 hI1 hS _ hf => ?_)
  have hR := Inv_RefOK hI1
  have e3 : M1 189 3 = M 189 3 := hf 189 3 (by omega) (by omega)
  obtain ⟨b, rfl, hb⟩ := natOfI (n := M1 189 3) (a := a1) (by rw [e3]; exact e)
  obtain ⟨n1', n2'⟩ := Inv_n hI1
  have hb5 : b < 5 := by omega
  have hN5 := hR.2.1
  have key : ∀ r : Int, (∀ i : Nat, a2 = (i : Int) → i < rungs (M1 190) → r = payAt (M1 190) (M1 193) b (rateByS (M1 190) (M1 191) noY) i) → (¬ (0 ≤ a2 ∧ a2 < (rungs (M1 190) : Int)) → r = -12) → wp_X12_paysAt 189 (b : Int) a2 M1 (fun r2 => w32 r = w32 r2 ∧ Inv DK M1) := by
    intro r c1 c2
    unfold wp_X12_paysAt
    rw [isBond_iff rfl n2' h1]
    refine dct (fun _ => ?_) (fun z => absurd (by rw [e3]; exact e) z)
    rw [isRung_iff hR.2.2.1 hN5 h2]
    refine dcf (fun z => ?_) (fun z => ?_)
    · obtain ⟨i, rfl, hi⟩ := natOf z
      exact paysAtRung_ok hR hb hi ⟨by rw [c1 i rfl hi], hI1⟩
    · rw [c2 z]; exact ⟨rfl, hI1⟩
  rw [rtv_0_3, hasRung_iff hS.1 hN5 h2]
  refine dcf (fun z => ?_) (fun z => key _ (fun i hi hi2 => absurd ⟨by rw [hi]; exact Int.natCast_nonneg _, by rw [hi]; exact Int.ofNat_lt.mpr hi2⟩ z) (fun _ => rfl))
  obtain ⟨i, rfl, hi⟩ := natOf z
  have hi5 : i < 5 := Nat.lt_of_lt_of_le hi hN5
  rw [rtv_27_8, ixn (show b < 2147483648 by omega), ixn (show i < 2147483648 by omega), rt_40 b hb5]
  refine ⟨inbn LN_40 hb5, inbn (SC_ln14 (Or.inl rfl) b hb5) hi5, key _ (fun j hj _ => ?_) (fun q => absurd z q)⟩
  have : j = i := by omega
  subst this
  exact (Scene_bond hS hb).2.1 j hi
