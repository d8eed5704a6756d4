/-- a row of 5 filled, then told -/
theorem tell_ok {a1 : Int} {M : Mem} {y hv d r l t : F1} {n : Int} {Q : Int → Prop} (hP : Played M d r l t y hv n) (hN : rungs d ≤ 5) (h2 : R32 a1) (w : okW a1) (pl : a1 < 20 → (0 ≤ a1 % 10 ∧ a1 % 10 < (rungs d : Int))) (h : Q (valV d r l t y hv n a1)) : wp_X6_tell 177 a1 M Q := by
  obtain ⟨p1, p2, p3, p4, p5, p6⟩ := hP
  unfold valV at h
  unfold okW at w
  unfold wp_X6_tell
  rw [w32_R h2, wl_10]
  refine ⟨fun u => ?_, fun u => ?_, fun u => ?_, fun u => ?_, fun u => ⟨fun u2 => ?_, fun u2 => ?_⟩⟩
  · rw [if_neg (by omega), if_neg (by omega), if_pos (by omega)] at h
    rw [p2]; exact h
  · rw [if_neg (by omega), if_neg (by omega), if_neg (by omega), if_pos (by omega)] at h
    rw [p3]; exact h
  · rw [if_neg (by omega), if_neg (by omega), if_neg (by omega), if_neg (by omega), if_pos (by omega)] at h
    rw [p4]; exact h
  · rw [if_neg (by omega), if_neg (by omega), if_neg (by omega), if_neg (by omega), if_neg (by omega)] at h
    rw [p5]; exact h
  · rw [if_neg (by omega), if_pos (by omega)] at h
    obtain ⟨i, hi⟩ : ∃ i : Nat, a1 - 10 = (i : Int) := ⟨(a1 - 10).toNat, by omega⟩
    have pl := pl (by omega)
    rw [hi, show ((i : Int)).toNat = i by omega] at h
    rw [hi, rtv_177_s, ixn (show i < 2147483648 by omega), (p6 i (by omega)).2]
    exact ⟨inbn LN_179 (by omega), h⟩
  · rw [if_pos (by omega)] at h
    obtain ⟨i, rfl⟩ : ∃ i : Nat, a1 = (i : Int) := ⟨a1.toNat, by omega⟩
    have pl := pl (by omega)
    rw [show ((i : Int)).toNat = i by omega] at h
    rw [rtv_177_c, ixn (show i < 2147483648 by omega), (p6 i (by omega)).1]
    exact ⟨inbn LN_178 (by omega), h⟩
/-- what a replay of the class may change -/
def FrC (M M' : Mem) : Prop := ∀ k j, ¬ (48 ≤ k ∧ k ≤ 68) → k ≠ 70 → k ≠ 71 → k ≠ 177 → k ≠ 178 → k ≠ 179 → M' k j = M k j
theorem FrC_refl (M : Mem) : FrC M M := fun _ _ _ _ _ _ _ _ => rfl
theorem FrC_trans {M M2 M3 : Mem} (h : FrC M M2) (h2 : FrC M2 M3) : FrC M M3 := fun k j a b c d e f => (h2 k j a b c d e f).trans (h k j a b c d e f)
theorem Inv_FrC {DK : Mem → Prop} (hD : KeptH DK) {M M2 : Mem} (hI : Inv DK M) (h : FrC M M2) : Inv DK M2 :=
  Inv_same (KeptH_Kept hD) (fun k j q => h k j (keepF_play q).1 (keepF_play q).2.1 (keepF_play q).2.2.1 (keepF_play q).2.2.2.1 (keepF_play q).2.2.2.2.1 (keepF_play q).2.2.2.2.2.1) hI
theorem FrC_data {M M' : Mem} (h : FrC M M') : M' 190 = M 190 ∧ M' 191 = M 191 ∧ M' 192 = M 192 ∧ M' 193 = M 193 ∧ M' 189 = M 189 ∧ M' 209 = M 209 ∧ M' 210 = M 210 ∧ M' 211 = M 211 := by
  have row : ∀ k, 189 ≤ k → M' k = M k := fun k hk => funext fun j => h k j (by omega) (by omega) (by omega) (by omega) (by omega) (by omega)
  exact ⟨row 190 (by decide), row 191 (by decide), row 192 (by decide), row 193 (by decide), row 189 (by decide), row 209 (by decide), row 210 (by decide), row 211 (by decide)⟩
theorem readRates_ok {DK : Mem → Prop} {M0 M : Mem} (hI : Inv DK M0) {j : Nat} (hj : j < 4) (hF : FrC M0 M) (h70 : ∀ i, i < 5 → M 70 i = -1) (hs : M0 209 j ≠ 0) {Q : Bool → Mem → Prop} (c1 : badR M0 j → ∀ M' : Mem, FrC M0 M' → Q false M') (c2 : ¬ badR M0 j → ∀ M' : Mem, FrC M0 M' → (∀ i, i < 5 → M' 70 i = yOf M0 (j : Int) i) → Q true M') : wp_X11_readRates 0 (181 + 2 * j) M Q := by
  obtain ⟨v1, v2, v3, v4, v5, v6, v7, v8⟩ := InvS_j hI hj
  have e2 : ∀ M', FrC M0 M' → M' (181 + 2 * j) 2 = M0 210 j := fun M' h => (h _ _ (by omega) (by omega) (by omega) (by omega) (by omega) (by omega)).trans v4
  have e3 : ∀ M', FrC M0 M' → ∀ i, i < 40 → M' (182 + 2 * j) i = M0 211 (40 * j + i) := fun M' h i hi => (h _ _ (by omega) (by omega) (by omega) (by omega) (by omega) (by omega)).trans (v8 i hi).1
  unfold wp_X11_readRates
  rw [e2 M hF, wl_5, w32_id (z := M0 210 j) (by omega) (by omega)]
  refine ⟨fun u => ?_, fun u => c1 (Or.inl (by omega)) M hF⟩
  have yj : ∀ i : Nat, yOf M0 (j : Int) i = if (i : Int) < M0 210 j then M0 211 (40 * j + i) else -1 := fun i => by
    unfold yOf
    rw [if_neg (by omega), show ((j : Int)).toNat = j by omega]
  refine ⟨fun M' x2 => ∃ m : Nat, x2 = (m : Int) ∧ m ≤ 5 ∧ (∀ i : Nat, i < m → (i : Int) < M0 210 j ∧ 0 ≤ M0 211 (40 * j + i) ∧ M0 211 (40 * j + i) ≤ 9) ∧ (∀ i, i < m → M' 70 i = yOf M0 (j : Int) i) ∧ (∀ i, m ≤ i → i < 5 → M' 70 i = -1) ∧ FrC M0 M', fun _ x2 => (5 - x2).toNat, ⟨0, rfl, by omega, fun i hi => by omega, fun i hi => by omega, fun i _ hi => h70 i hi, hF⟩, ?_⟩
  rintro M1 x2 ⟨m, rfl, hm, g0, g1, g2, g3⟩
  unfold wp_X11_readRates_B12
  dsimp only
  rw [e2 M1 g3, w32_id (z := M0 210 j) (by omega) (by omega), w32n (show m < 2147483648 by omega), ixn (show m < 2147483648 by omega), rt_sheet j hj]
  refine ⟨fun u2 => ?_, fun u2 => ⟨inbn (LN_sheet hj) (by omega), ?_⟩⟩
  · refine c2 ?_ M1 g3 (fun i hi => ?_)
    · rintro (z | ⟨i, z1, z2⟩)
      · omega
      · exact z2 (g0 i (by omega)).2
    · by_cases q : i < m
      · exact g1 i q
      · rw [g2 i (by omega) hi, yj, if_neg (by omega)]
  · rw [X11_within_iff, e3 M1 g3 m (by omega), wl_0, wl_9, w32_R (v8 m (by omega)).2]
    refine dct (fun z => ⟨inbn (LN_sheet hj) (by omega), ?_⟩) (fun z => c1 (Or.inr ⟨m, by omega, z⟩) M1 g3)
    rw [rtv_0_7]
    refine ⟨inbn LN_70 (by omega), ?_⟩
    rintro M48 rfl
    refine ⟨⟨m + 1, by omega, by omega, fun i hi => ?_, fun i hi => ?_, fun i hi hi2 => ?_, fun k c a b d e f g => ?_⟩, by omega⟩
    · by_cases q : i = m
      · subst q; exact ⟨by omega, z⟩
      · exact g0 i (by omega)
    · by_cases q : i = m
      · subst q; rw [st2_s, yj, if_pos (by omega)]
      · rw [st2_n _ _ (by omega)]; exact g1 i (by omega)
    · rw [st2_n _ _ (by omega)]; exact g2 i (by omega) hi2
    · rw [st2_off _ _ b]; exact g3 k c a b d e f g
/-- looked: nothing of the data changed, the scene stands -/
theorem look_ok' {DK : Mem → Prop} {M : Mem} {Q : Mem → Prop} (hI : Inv DK M) (h : ∀ M' : Mem, Inv DK M' → SceneOK M' 27 (M' 190) (M' 191) (M' 192) (M' 193) noY (M' 189 3) → (∀ k j, ¬ (k = 0 ∧ (j = 5 ∨ j = 13)) → (k < 27 ∨ 47 < k) → M' k j = M k j) → (∀ k, 189 ≤ k → M' k = M k) → Q M') : wp_X11_look 0 M Q :=
  look_ok hI fun M' a b _ d => h M' a b d (fun k hk => funext fun j => d k j (by omega) (by omega))
theorem step_19 {DK : Mem → Prop} (hD : KeptH DK) : Step_19 (Inv DK) := by
  intro M hI a1 a2 h1 h2
  -- whatever the class comes to: then the reference
  have fin : ∀ (r : Int) (M1 : Mem), Inv DK M1 → (∀ k, 189 ≤ k → M1 k = M k) →
      (¬ (okS a1 ∧ okW a2) → r = -2) →
      (∀ j : Nat, a1 = (j : Int) → j < 4 → okW a2 → M 209 j = 0 → r = -11) →
      (∀ j : Nat, a1 = (j : Int) → j < 4 → okW a2 → M 209 j ≠ 0 → badR M j → r = -2) →
      (okW a2 → goodS M a1 → a2 < 20 → ¬ (0 ≤ a2 % 10 ∧ a2 % 10 < (rungs (M 190) : Int)) → r = -12) →
      (okW a2 → goodS M a1 → (a2 < 20 → (0 ≤ a2 % 10 ∧ a2 % 10 < (rungs (M 190) : Int))) → r = valV (M 190) (M 191) (M 192) (M 193) (yOf M a1) (heldF (M 193)) (M 189 3) a2) →
      wp_X12_replay 189 a1 a2 M1 (fun r2 M2 => w32 r = w32 r2 ∧ Inv DK M2) := by
    intro r M1 hI1 e c1 c2 c3 c4 c5
    have ey : yOf M1 a1 = yOf M a1 := by
      funext i
      unfold yOf
      rw [e 210 (by decide), e 211 (by decide)]
    have eb : ∀ j, badR M1 j ↔ badR M j := fun j => by
      unfold badR
      rw [e 210 (by decide), e 211 (by decide)]
    have eg : goodS M1 a1 ↔ goodS M a1 := by
      unfold goodS
      rw [e 209 (by decide)]
      simp only [eb]
    refine X12_replay_ok hI1 h1 h2 (fun z => ⟨by rw [c1 z], hI1⟩) (fun j z1 z2 z3 z4 => ?_) (fun j z1 z2 z3 z4 z5 => ?_) (fun z1 z2 z3 z4 => ?_) (fun z1 z2 z3 M2 hM2 => ?_)
    · rw [e 209 (by decide)] at z4
      exact ⟨by rw [c2 j z1 z2 z3 z4], hI1⟩
    · rw [e 209 (by decide)] at z4
      exact ⟨by rw [c3 j z1 z2 z3 z4 ((eb j).mp z5)], hI1⟩
    · rw [e 190 (by decide)] at z4
      exact ⟨by rw [c4 z1 (eg.mp z2) z3 z4], hI1⟩
    · rw [e 190 (by decide), e 191 (by decide), e 192 (by decide), e 193 (by decide), e 189 (by decide), ey]
      rw [e 190 (by decide)] at z3
      exact ⟨by rw [c5 z1 (eg.mp z2) z3], Inv_FrP hD hI1 hM2⟩
  -- the class, once the rates are read
  have b66 : okW a2 → goodS M a1 → ∀ M1 : Mem, FrC M M1 → (∀ i, i < 5 → M1 70 i = yOf M a1 i) → wp_X11_replay_b66 0 (fun r M1 => wp_X12_replay 189 a1 a2 M1 (fun r2 M2 => w32 r = w32 r2 ∧ Inv DK M2)) M1 a2 := by
    intro w g M1 hF h70
    have noc : ∀ r : Int, ∀ M2 : Mem, Inv DK M2 → (∀ k, 189 ≤ k → M2 k = M k) → (a2 < 20 → ¬ (0 ≤ a2 % 10 ∧ a2 % 10 < (rungs (M 190) : Int)) → r = -12) → ((a2 < 20 → (0 ≤ a2 % 10 ∧ a2 % 10 < (rungs (M 190) : Int))) → r = valV (M 190) (M 191) (M 192) (M 193) (yOf M a1) (heldF (M 193)) (M 189 3) a2) → wp_X12_replay 189 a1 a2 M2 (fun r2 M2 => w32 r = w32 r2 ∧ Inv DK M2) := by
      intro r M2 hI2 e q1 q2
      have hs0 : okS a1 := by
        rcases g with z | ⟨j, z1, z2, -⟩
        · exact Or.inl z
        · exact Or.inr (by omega)
      refine fin r M2 hI2 e (fun z => absurd ⟨hs0, w⟩ z) (fun j z1 z2 z3 z4 => ?_) (fun j z1 z2 z3 z4 z5 => ?_) (fun z1 z2 z3 z4 => q1 z3 z4) (fun z1 z2 z3 => q2 z3)
      · rcases g with z | ⟨i, y1, y2, y3, y4⟩
        · omega
        · have : i = j := by omega
          subst this
          exact absurd z4 y3
      · rcases g with z | ⟨i, y1, y2, y3, y4⟩
        · omega
        · have : i = j := by omega
          subst this
          exact absurd z5 y4
    unfold wp_X11_replay_b66
    refine look_ok' (Inv_FrC hD hI hF) (fun M2 hI2 hS hf he => ?_)
    have e2 : ∀ k, 189 ≤ k → M2 k = M k := fun k hk => (he k hk).trans (funext fun j => hF k j (by omega) (by omega) (by omega) (by omega) (by omega) (by omega))
    have hN5 : rungs (M 190) ≤ 5 := by
      have := (Inv_RefOK hI).2.1
      exact this
    have b93 : (a2 < 20 → (0 ≤ a2 % 10 ∧ a2 % 10 < (rungs (M 190) : Int))) → wp_X11_replay_b93 0 (fun r M1 => wp_X12_replay 189 a1 a2 M1 (fun r2 M2 => w32 r = w32 r2 ∧ Inv DK M2)) M2 a2 := by
      intro pl
      unfold wp_X11_replay_b93
      rw [rtv_0_7, rtv_0_16]
      refine playBy_ok (y := yOf M a1) hI2 (fun i hi => ?_) (fun M3 p1 p2 => ?_)
      · rw [hf 70 i (by omega) (by omega), h70 i hi]
        exact ⟨rfl, yOf_r g i hi⟩
      rw [e2 190 (by decide), e2 191 (by decide), e2 192 (by decide), e2 193 (by decide), e2 189 (by decide)] at p1
      have hF3 : FrC M2 M3 := fun k j a b c d e f => p2 k j a c d e f
      refine tell_ok p1 hN5 h2 w pl (noc _ M3 (Inv_FrC hD hI2 hF3) (fun k hk => ?_) (fun z1 z2 => absurd (pl z1) z2) (fun _ => rfl))
      rw [← e2 k hk]
      exact funext fun j => p2 k j (by omega) (by omega) (by omega) (by omega) (by omega)
    rw [wl_20, wl_10, w32_R h2, rtv_0_3]
    refine ⟨fun u => b93 (fun z => by omega), fun u => ⟨by decide, ?_⟩⟩
    have w' := w
    unfold okW at w'
    rw [Int.tmod_eq_emod_of_nonneg (by omega), hasRung_iff hS.1 (by rw [e2 190 (by decide)]; exact hN5) ⟨by omega, by omega⟩, e2 190 (by decide)]
    exact dct (fun z => b93 (fun _ => z)) (fun z => noc _ M2 hI2 e2 (fun _ _ => rfl) (fun q => absurd (q (by omega)) z))
  have b12 : okS a1 → wp_X11_replay_b12 0 (fun r M1 => wp_X12_replay 189 a1 a2 M1 (fun r2 M2 => w32 r = w32 r2 ∧ Inv DK M2)) M a1 a2 := by
    intro s
    have go : okW a2 → wp_J7_fill_53178 (rt 0 7) (-1) M (fun M27 => (((w32 a1 = w32 (-1)) → (wp_X11_replay_b66 0 (fun r M1 => wp_X12_replay 189 a1 a2 M1 (fun r2 M2 => w32 r = w32 r2 ∧ Inv DK M2)) M27 a2)) ∧ (¬ (w32 a1 = w32 (-1)) → (inb (rt 0 17) a1 ∧ (wp_X9_isMissing (rt (rt 0 17) (ix a1)) M27 (fun r41 => ((r41 = false → (inb (rt 0 17) a1 ∧ (wp_X11_readRates 0 (rt (rt 0 17) (ix a1)) M27 (fun r57 M57 => ((r57 = true → (wp_X11_replay_b66 0 (fun r M1 => wp_X12_replay 189 a1 a2 M1 (fun r2 M2 => w32 r = w32 r2 ∧ Inv DK M2)) M57 a2)) ∧ (r57 = false → ((fun r M1 => wp_X12_replay 189 a1 a2 M1 (fun r2 M2 => w32 r = w32 r2 ∧ Inv DK M2)) (-2) M57))))))) ∧ (r41 = true → ((fun r M1 => wp_X12_replay 189 a1 a2 M1 (fun r2 M2 => w32 r = w32 r2 ∧ Inv DK M2)) (-11) M27))))))))) := by
      intro w
      rw [rtv_0_7]
      refine fill_ok LN_70 (fun M1 f1 f2 => ?_)
      have hF1 : FrC M M1 := fun k j _ b _ _ _ _ => f2 k j (fun z => b z.1)
      rw [wm_1, w32_R h1]
      refine ⟨fun u => b66 w (Or.inl u) M1 hF1 (fun i hi => ?_), fun u => ?_⟩
      · rw [f1 i hi]
        unfold yOf
        rw [if_pos u]
      obtain ⟨j, rfl⟩ : ∃ j : Nat, a1 = (j : Int) := ⟨a1.toNat, by unfold okS at s; omega⟩
      have hj : j < 4 := by unfold okS at s; omega
      have jj : ∀ i : Nat, (j : Int) = (i : Int) → i = j := fun i hi => by omega
      have hI1 := Inv_FrC hD hI hF1
      have he : ∀ M2 : Mem, FrC M M2 → ∀ k, 189 ≤ k → M2 k = M k := fun M2 h k hk => funext fun c => h k c (by omega) (by omega) (by omega) (by omega) (by omega) (by omega)
      obtain ⟨v1, v2, v3, v4, v5, v6, v7, v8⟩ := InvS_j hI hj
      rw [rtv_0_17, ixn (show j < 2147483648 by omega), rt_180 j hj]
      refine ⟨inbn LN_180 hj, ?_⟩
      rw [isMissing_iff (z := M 209 j) ((hF1 _ _ (by omega) (by omega) (by omega) (by omega) (by omega) (by omega)).trans v1) ⟨v2, v3⟩]
      refine dcf (fun z => ?_) (fun z => ⟨inbn LN_180 hj, readRates_ok hI hj hF1 f1 z (fun bb M2 hF2 => ⟨fun q => (by cases q), fun _ => ?_⟩) (fun nb M2 hF2 h70 => ⟨fun _ => b66 w (Or.inr ⟨j, rfl, hj, z, nb⟩) M2 hF2 h70, fun q => (by cases q)⟩)⟩)
      · refine fin _ M1 hI1 (he M1 hF1) (fun q => absurd ⟨s, w⟩ q) (fun _ _ _ _ _ => rfl) (fun i hi _ _ q => ?_) (fun _ q => ?_) (fun _ q => ?_)
        · rw [jj i hi] at q; exact absurd z q
        · rcases q with q | ⟨i, hi, _, q, _⟩
          · exact absurd q u
          · rw [jj i hi] at q; exact absurd z q
        · rcases q with q | ⟨i, hi, _, q, _⟩
          · exact absurd q u
          · rw [jj i hi] at q; exact absurd z q
      · refine fin _ M2 (Inv_FrC hD hI hF2) (he M2 hF2) (fun q => absurd ⟨s, w⟩ q) (fun i hi _ _ q => ?_) (fun _ _ _ _ _ _ => rfl) (fun _ q => ?_) (fun _ q => ?_)
        · rw [jj i hi] at q; exact absurd q z
        · rcases q with q | ⟨i, hi, _, _, q⟩
          · exact absurd q u
          · rw [jj i hi] at q; exact absurd bb q
        · rcases q with q | ⟨i, hi, _, _, q⟩
          · exact absurd q u
          · rw [jj i hi] at q; exact absurd bb q
    have no : ¬ okW a2 → wp_X12_replay 189 a1 a2 M (fun r2 M2 => w32 (-2) = w32 r2 ∧ Inv DK M2) := fun nw => fin _ M hI (fun _ _ => rfl) (fun _ => rfl) (fun _ _ _ q _ => absurd q nw) (fun _ _ _ q _ _ => absurd q nw) (fun q => absurd q nw) (fun q => absurd q nw)
    unfold wp_X11_replay_b12 wp_X11_isAskedOfReplay
    rw [X11_within_iff, wl_0, wl_4, w32_R h2]
    refine dct (fun z => ⟨fun _ => go (Or.inl z), fun q => (by cases q)⟩) (fun z => ?_)
    rw [X11_within_iff, wl_10, wl_14, w32_R h2]
    refine dct (fun z2 => ⟨fun _ => go (Or.inr (Or.inl z2)), fun q => (by cases q)⟩) (fun z2 => ?_)
    rw [X11_within_iff, wl_20, wl_23, w32_R h2]
    refine dcf (fun z3 => ⟨fun _ => go (Or.inr (Or.inr z3)), fun q => (by cases q)⟩) (fun z3 => ⟨fun q => (by cases q), fun _ => no (fun q => by unfold okW at q; omega)⟩)
  unfold wp_X11_replay wp_X11_isSheet
  rw [wm_1, w32_R h1]
  refine ⟨fun u => b12 (Or.inl u), fun u => ?_⟩
  rw [X11_within_iff, wl_0, wl_3, w32_R h1]
  have ns : ¬ okS a1 → wp_X12_replay 189 a1 a2 M (fun r2 M2 => w32 (-2) = w32 r2 ∧ Inv DK M2) := fun nw => by
    refine fin _ M hI (fun _ _ => rfl) (fun _ => rfl) (fun j q1 q2 _ _ => absurd (Or.inr ⟨by omega, by omega⟩) nw) (fun j q1 q2 _ _ _ => absurd (Or.inr ⟨by omega, by omega⟩) nw) (fun _ q _ _ => ?_) (fun _ q _ => ?_)
    · rcases q with q | ⟨i, hi, q, _⟩
      · exact absurd (Or.inl q) nw
      · exact absurd (Or.inr ⟨by omega, by omega⟩) nw
    · rcases q with q | ⟨i, hi, q, _⟩
      · exact absurd (Or.inl q) nw
      · exact absurd (Or.inr ⟨by omega, by omega⟩) nw
  exact dcf (fun z => b12 (Or.inr z)) (fun z => ns (fun q => by unfold okS at q; omega))
