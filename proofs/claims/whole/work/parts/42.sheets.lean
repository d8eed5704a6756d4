/-! sheets -/
theorem Inv_sheets {DK : Mem → Prop} (hD : KeptH DK) {M M' : Mem} (hI : Inv DK M) (hS' : InvS M') (hf : ∀ k j, ¬ (181 ≤ k ∧ k < 189) → ¬ (209 ≤ k) → M' k j = M k j) : Inv DK M' := by
  have row : ∀ k, ¬ (181 ≤ k ∧ k < 189) → ¬ (209 ≤ k) → M' k = M k := fun k a b => funext fun j => hf k j a b
  obtain ⟨hB, hK, hR, hIm, hS, hN, hC⟩ := hI
  refine ⟨?_, ?_, ?_, ?_, hS', ?_, ?_⟩
  · unfold InvB at *
    rw [row 3 (by omega) (by omega), row 5 (by omega) (by omega), row 7 (by omega) (by omega), row 1 (by omega) (by omega), row 190 (by omega) (by omega), row 191 (by omega) (by omega), row 192 (by omega) (by omega), row 193 (by omega) (by omega), row 189 (by omega) (by omega)]
    exact BookR_congr hB (fun k hk => ⟨rfl, rfl, rfl, rfl, rfl, rfl⟩) rfl rfl (fun _ _ => rfl) (fun b w hb hw => by rw [row (9 + b) (by omega) (by omega)])
  · unfold InvK at *
    rw [row 2 (by omega) (by omega), row 4 (by omega) (by omega), row 6 (by omega) (by omega)]
    exact hK
  · unfold InvR at *
    rw [row 189 (by omega) (by omega), row 190 (by omega) (by omega), row 194 (by omega) (by omega), row 195 (by omega) (by omega)]
    exact hR
  · unfold InvI at *
    rw [fb_eq (hf 0 2 (by omega) (by omega)), fb_eq (hf 189 28 (by omega) (by omega))]
    refine ⟨hIm.1, fun q => ?_⟩
    have hb := hIm.2 q
    rw [row 16 (by omega) (by omega), row 18 (by omega) (by omega), row 20 (by omega) (by omega), row 14 (by omega) (by omega), row 208 (by omega) (by omega), row 189 (by omega) (by omega)]
    exact BookR_congr hb (fun k hk => ⟨rfl, rfl, rfl, rfl, rfl, rfl⟩) rfl rfl (fun _ _ => rfl) (fun b w hb hw => by rw [row (22 + b) (by omega) (by omega)])
  · unfold InvN at *
    rw [row 69 (by omega) (by omega)]
    exact hN
  · intro q
    rw [fb_eq (hf 0 5 (by omega) (by omega))] at q
    obtain ⟨u1, u2⟩ := hC q
    refine ⟨?_, fun q2 => hD M M' (fun k j z => ?_) (u2 (by rw [← fb_eq (hf 0 13 (by omega) (by omega))]; exact q2))⟩
    · have hn := hB.2.2.2.2.2.2.2.1
      unfold SceneOK at *
      obtain ⟨v1, v2, v3, v4⟩ := u1
      rw [row 190 (by omega) (by omega), row 191 (by omega) (by omega), row 192 (by omega) (by omega), row 193 (by omega) (by omega), row 189 (by omega) (by omega), row 27 (by omega) (by omega), row (27 + 1) (by omega) (by omega), row (27 + 2) (by omega) (by omega), row (27 + 3) (by omega) (by omega), row (27 + 4) (by omega) (by omega), row (27 + 5) (by omega) (by omega), row (27 + 6) (by omega) (by omega), row (27 + 19) (by omega) (by omega), row (27 + 20) (by omega) (by omega)]
      refine ⟨v1, v2, v3, fun b hb => ?_⟩
      have hb5 : b < 5 := by omega
      rw [row (27 + 8 + b) (by omega) (by omega), row (27 + 14 + b) (by omega) (by omega)]
      exact v4 b hb
    · unfold keepH at z
      simp only [Bool.or_eq_true, Bool.and_eq_true, decide_eq_true_eq] at z
      exact hf k j (by omega) (by omega)
theorem Inv_sheet1 {DK : Mem → Prop} (hD : KeptH DK) {M M' : Mem} (hI : Inv DK M) {j : Nat} (hj : j < 4) (h1 : M' (181 + 2 * j) 1 = M' 209 j - 1) (h2 : 0 ≤ M' 209 j ∧ M' 209 j ≤ 2) (h3 : M' (181 + 2 * j) 2 = M' 210 j) (h4 : 0 ≤ M' 210 j ∧ M' 210 j ≤ 40) (h5 : M' 209 j = 0 → M' 210 j = 0) (h6 : ∀ i, i < 40 → M' (182 + 2 * j) i = M' 211 (40 * j + i) ∧ R32 (M' 211 (40 * j + i))) (hf : ∀ k c, k ≠ 181 + 2 * j → k ≠ 182 + 2 * j → ¬ (k = 209 ∧ c = j) → ¬ (k = 210 ∧ c = j) → ¬ (k = 211 ∧ 40 * j ≤ c ∧ c < 40 * j + 40) → M' k c = M k c) : Inv DK M' := by
  refine Inv_sheets hD hI ?_ (fun k c a b => hf k c (by omega) (by omega) (by omega) (by omega) (by omega))
  intro c hc
  by_cases q : c = j
  · subst q
    exact ⟨h1, h2.1, h2.2, h3, h4.1, h4.2, h5, h6⟩
  · obtain ⟨w1, w2, w3, w4, w5, w6, w7, w8⟩ := hI.2.2.2.2.1 c hc
    rw [hf (181 + 2 * c) 1 (by omega) (by omega) (by omega) (by omega) (by omega), hf (181 + 2 * c) 2 (by omega) (by omega) (by omega) (by omega) (by omega), hf 209 c (by omega) (by omega) (by omega) (by omega) (by omega), hf 210 c (by omega) (by omega) (by omega) (by omega) (by omega)]
    refine ⟨w1, w2, w3, w4, w5, w6, w7, fun i hi => ?_⟩
    rw [hf (182 + 2 * c) i (by omega) (by omega) (by omega) (by omega) (by omega), hf 211 (40 * c + i) (by omega) (by omega) (by omega) (by omega) (by omega)]
    exact w8 i hi
theorem X9_begin_ok {j : Nat} (hj : j < 4) {s n : Int} {M : Mem} {Q : Mem → Prop} (h : ∀ M' : Mem, M' (181 + 2 * j) 1 = s → M' (181 + 2 * j) 2 = n → (∀ i, i < 40 → M' (182 + 2 * j) i = 0) → (∀ k c, k ≠ 181 + 2 * j → k ≠ 182 + 2 * j → M' k c = M k c) → Q M') : wp_X9_begin (181 + 2 * j) s n M Q := by
  rintro M2 rfl M7 rfl
  rw [rt_sheet j hj]
  refine fill_ok (LN_sheet hj) (fun M' f1 f2 => h M' ?_ ?_ f1 (fun k c k1 k2 => ?_))
  · rw [f2 _ _ (by omega), st2_n _ _ (by omega), st2_s]
  · rw [f2 _ _ (by omega), st2_s]
  · rw [f2 _ _ (by omega), st2_n _ _ (by omega), st2_n _ _ (by omega)]
theorem X12_fill_ok {j : Nat} (hj : j < 4) {M : Mem} {Q : Int → Mem → Prop} (h : ∀ M' : Mem, (∀ i, i < 40 → M' 211 (40 * j + i) = 0) → (∀ k c, ¬ (k = 211 ∧ 40 * j ≤ c ∧ c < 40 * j + 40) → M' k c = M k c) → Q 1 M') : wp_X12_sheet_L67 189 Q M (j : Int) 0 := by
  refine ⟨fun M' x4 => ∃ m : Nat, x4 = (m : Int) ∧ m ≤ 40 ∧ (∀ i, i < m → M' 211 (40 * j + i) = 0) ∧ (∀ k c, ¬ (k = 211 ∧ 40 * j ≤ c ∧ c < 40 * j + 40) → M' k c = M k c), fun _ x4 => (40 - x4).toNat, ⟨0, rfl, by omega, fun i hi => by omega, fun _ _ _ => rfl⟩, ?_⟩
  rintro M1 x4 ⟨m, rfl, hm, f1, f2⟩
  unfold wp_X12_sheet_B67
  dsimp only
  rw [wl_40, w32n (show m < 2147483648 by omega), rtv_189_33, show (40 : Int) * (j : Int) + (m : Int) = ((40 * j + m : Nat) : Int) by omega, ixn (show 40 * j + m < 2147483648 by omega)]
  refine ⟨fun u => ?_, fun u => ⟨inbn LN_211 (by omega), ?_⟩⟩
  · have : m = 40 := by omega
    subst this
    exact h M1 f1 f2
  · rintro M86 rfl
    refine ⟨⟨m + 1, by omega, by omega, fun i hi => ?_, fun k c hk => ?_⟩, by omega⟩
    · by_cases q : i = m
      · subst q; exact st2_s _ _ _ _
      · rw [st2_n _ _ (by omega)]; exact f1 i (by omega)
    · rw [st2_n _ _ (by omega)]; exact f2 k c hk
theorem step_28 {DK : Mem → Prop} (hD : KeptH DK) : Step_28 (Inv DK) := by
  intro M hI a1 a2 a3 h1 h2 h3
  have ref : ∀ (M1 : Mem) (P : Int → Mem → Prop),
      (¬ ((0 ≤ a1 ∧ a1 ≤ 3) ∧ (-1 ≤ a2 ∧ a2 ≤ 1) ∧ (0 ≤ a2 → a3 ≤ 40)) → P (-2) M1) →
      (((0 ≤ a1 ∧ a1 ≤ 3) ∧ (0 ≤ a2 ∧ a2 ≤ 1) ∧ a3 < 0) → P (-14) M1) →
      (((0 ≤ a1 ∧ a1 ≤ 3) ∧ (-1 ≤ a2 ∧ a2 ≤ 1) ∧ (0 ≤ a2 → (a3 ≤ 40 ∧ 0 ≤ a3))) → ∀ (j : Nat) (M2 : Mem), a1 = (j : Int) → j < 4 → M2 209 j = a2 + 1 → M2 210 j = (if a2 = -1 then 0 else a3) → (∀ i, i < 40 → M2 211 (40 * j + i) = 0) → (∀ k c, ¬ (k = 209 ∧ c = j) → ¬ (k = 210 ∧ c = j) → ¬ (k = 211 ∧ 40 * j ≤ c ∧ c < 40 * j + 40) → M2 k c = M1 k c) → P 1 M2) →
      wp_X12_sheet 189 a1 a2 a3 M1 P := by
    intro M1 P c1 c2 c3
    unfold wp_X12_sheet wp_X12_isSheet
    rw [X12_within_iff, wl_0, wl_3, w32_R h1]
    refine dcf (fun e1 => ?_) (fun e1 => c1 (fun z => e1 z.1))
    rw [X12_within_iff, wm_1, wl_1, w32_R h2]
    refine dcf (fun e2 => ?_) (fun e2 => c1 (fun z => e2 z.2.1))
    obtain ⟨j, rfl⟩ : ∃ j : Nat, a1 = (j : Int) := ⟨a1.toNat, by omega⟩
    rw [wl_40, w32_R h3]
    have b40 : (0 ≤ a2 → (a3 ≤ 40 ∧ 0 ≤ a3)) → wp_X12_sheet_b40 189 P M1 (j : Int) a2 a3 := by
      intro hz
      unfold wp_X12_sheet_b40 wp_X12_sheet_b63
      rw [rtv_189_31, rtv_189_32, ixn (show j < 2147483648 by omega), w32_R h2]
      refine ⟨inbn LN_209 (by omega), ?_⟩
      rintro M48 rfl
      have fin : ∀ z : Int, (z = if a2 = -1 then 0 else a3) → ∀ M63 : Mem, M63 = st2 (st2 M1 209 j (a2 + 1)) 210 j z → wp_X12_sheet_L67 189 P M63 (j : Int) 0 := by
        rintro z hz2 M63 rfl
        refine X12_fill_ok (by omega) (fun M' f1 f2 => c3 ⟨e1, e2, hz⟩ j M' rfl (by omega) ?_ ?_ f1 (fun k c k1 k2 k3 => ?_))
        · rw [f2 _ _ (by omega), st2_n _ _ (by omega), st2_s]
        · rw [f2 _ _ (by omega), st2_s, hz2]
        · rw [f2 _ _ k3, st2_n _ _ k2, st2_n _ _ k1]
      refine ⟨fun u => ⟨inbn LN_210 (by omega), fin _ ?_⟩, fun u => ⟨inbn LN_210 (by omega), fin _ ?_⟩⟩
      · rw [if_neg (by omega)]
      · rw [if_pos (by omega)]
    have b29 : (0 ≤ a2 → a3 ≤ 40) → wp_X12_sheet_b29 189 P M1 (j : Int) a2 a3 := by
      intro hz
      unfold wp_X12_sheet_b29
      rw [w32_R h2, w32_R h3]
      refine ⟨fun u => b40 (fun q => by omega), fun u => ⟨fun u2 => b40 (fun q => ⟨hz q, u2⟩), fun u2 => c2 ⟨e1, by omega, by omega⟩⟩⟩
    refine ⟨fun u => b29 (fun q => by omega), fun u => ⟨fun u2 => b29 (fun _ => u2), fun u2 => c1 (fun q => u2 (q.2.2 (by omega)))⟩⟩
  have bad : ¬ ((0 ≤ a1 ∧ a1 ≤ 3) ∧ (-1 ≤ a2 ∧ a2 ≤ 1) ∧ (0 ≤ a2 → a3 ≤ 40)) → wp_X12_sheet 189 a1 a2 a3 M (fun r2 M2 => w32 (-2) = w32 r2 ∧ Inv DK M2) := fun z => ref M _ (fun _ => ⟨rfl, hI⟩) (fun q => absurd (show (0 ≤ a1 ∧ a1 ≤ 3) ∧ (-1 ≤ a2 ∧ a2 ≤ 1) ∧ (0 ≤ a2 → a3 ≤ 40) from ⟨q.1, by omega, fun _ => by omega⟩) z) (fun q => absurd (show (0 ≤ a1 ∧ a1 ≤ 3) ∧ (-1 ≤ a2 ∧ a2 ≤ 1) ∧ (0 ≤ a2 → a3 ≤ 40) from ⟨q.1, q.2.1, fun v => (q.2.2 v).1⟩) z)
  unfold wp_X11_sheet wp_X11_isSheet
  rw [X11_within_iff, wl_0, wl_3, w32_R h1]
  refine dcf (fun e1 => ?_) (fun e1 => bad (fun z => e1 z.1))
  obtain ⟨j, rfl⟩ : ∃ j : Nat, a1 = (j : Int) := ⟨a1.toNat, by omega⟩
  have hj : j < 4 := by omega
  have good : ∀ s n : Int, s = a2 → (-1 ≤ a2 ∧ a2 ≤ 1) → (n = if a2 = -1 then 0 else a3) → (0 ≤ a2 → (a3 ≤ 40 ∧ 0 ≤ a3)) → wp_X9_begin (181 + 2 * j) s n M (fun M64 => wp_X12_sheet 189 (j : Int) a2 a3 M64 (fun r2 M2 => w32 1 = w32 r2 ∧ Inv DK M2)) := by
    intro s n hs e2 hn hz
    subst hs
    refine X9_begin_ok hj (fun M' f1 f2 f3 f4 => ref M' _ (fun q => absurd ⟨e1, e2, fun v => (hz v).1⟩ q) (fun q => absurd (hz q.2.1.1).2 (by omega)) ?_)
    intro _ i M2 hi _ g1 g2 g3 g4
    have : i = j := by omega
    subst this
    refine ⟨rfl, Inv_sheet1 hD hI hj ?_ ?_ ?_ ?_ ?_ (fun c hc => ?_) (fun k c k1 k2 k3 k4 k5 => ?_)⟩
    · rw [g4 _ _ (by omega) (by omega) (by omega), f1, g1]; omega
    · rw [g1]; omega
    · rw [g4 _ _ (by omega) (by omega) (by omega), f2, g2, hn]
    · rw [g2]
      split <;> omega
    · rw [g1, g2]
      intro q
      rw [if_pos (by omega)]
    · rw [g4 _ _ (by omega) (by omega) (by omega), f3 c hc, g3 c hc]
      exact ⟨rfl, R32_i (by decide) (by decide)⟩
    · rw [g4 _ _ k3 k4 k5, f4 _ _ k1 k2]
  have b22 : (-1 ≤ a2 ∧ a2 ≤ 1) → wp_X11_sheet_b22 0 (fun r M1 => wp_X12_sheet 189 (j : Int) a2 a3 M1 (fun r2 M2 => w32 r = w32 r2 ∧ Inv DK M2)) M (j : Int) a2 a3 := by
    intro e2
    unfold wp_X11_sheet_b22
    rw [wm_1, wl_40, w32_R h2, w32_R h3, rtv_0_17, ixn (show j < 2147483648 by omega), rt_180 j hj]
    refine ⟨fun u => ⟨fun u2 => ⟨fun u3 => ⟨inbn LN_180 hj, good _ _ rfl e2 (by rw [if_neg u]) (fun _ => ⟨u2, u3⟩)⟩, fun u3 => ?_⟩, fun u2 => bad (fun z => u2 (z.2.2 (by omega)))⟩, fun u => ⟨inbn LN_180 hj, good _ _ (by omega) e2 (by rw [if_pos (by omega)]) (fun q => by omega)⟩⟩
    exact ref M _ (fun q => absurd ⟨e1, e2, fun _ => u2⟩ q) (fun _ => ⟨rfl, hI⟩) (fun q => absurd (q.2.2 (by omega)).2 u3)
  rw [wm_1, w32_R h2]
  refine ⟨fun u => b22 (by omega), fun u => ?_⟩
  rw [X11_isSort_iff, w32_R h2]
  exact dct (fun z => b22 (by omega)) (fun z => bad (fun q => by omega))
theorem InvS_j {DK : Mem → Prop} {M : Mem} (hI : Inv DK M) {j : Nat} (hj : j < 4) : M (181 + 2 * j) 1 = M 209 j - 1 ∧ 0 ≤ M 209 j ∧ M 209 j ≤ 2 ∧ M (181 + 2 * j) 2 = M 210 j ∧ 0 ≤ M 210 j ∧ M 210 j ≤ 40 ∧ (M 209 j = 0 → M 210 j = 0) ∧ ∀ i, i < 40 → M (182 + 2 * j) i = M 211 (40 * j + i) ∧ R32 (M 211 (40 * j + i)) := hI.2.2.2.2.1 j hj
theorem isMissing_iff {j : Nat} {M : Mem} {Q : Bool → Prop} {z : Int} (h : M (181 + 2 * j) 1 = z - 1) (hz : 0 ≤ z ∧ z ≤ 2) : wp_X9_isMissing (181 + 2 * j) M Q ↔ Q (decide (z = 0)) := by
  unfold wp_X9_isMissing
  rw [h, wm_1, w32_id (z := z - 1) (by omega) (by omega)]
  grind
theorem hasItem_iff {j : Nat} {a : Int} {M : Mem} {Q : Bool → Prop} {z : Int} (h : M (181 + 2 * j) 2 = z) (hz : 0 ≤ z ∧ z ≤ 40) (ha : R32 a) : wp_X9_hasItem (181 + 2 * j) a M Q ↔ Q (decide (0 ≤ a ∧ a < z)) := by
  unfold wp_X9_hasItem
  rw [h, w32_R ha, w32_id (z := z) (by omega) (by omega)]
  grind
theorem w8_R (z : Int) : R32 (w8 z) := by
  unfold w8 R32
  omega
theorem step_29 {DK : Mem → Prop} (hD : KeptH DK) : Step_29 (Inv DK) := by
  intro M hI a1 a2 a3 h1 h2 h3
  unfold wp_X11_put wp_X11_isSheet
  rw [X11_within_iff, wl_0, wl_3, w32_R h1]
  refine dct (fun e1 => ?_) (fun e1 => ?_)
  case refine_2 =>
    dsimp only
    unfold wp_X12_put wp_X12_isSheet
    rw [X12_within_iff, wl_0, wl_3, w32_R h1]
    exact dct (fun z => absurd z e1) (fun _ => ⟨rfl, hI⟩)
  obtain ⟨j, rfl⟩ : ∃ j : Nat, a1 = (j : Int) := ⟨a1.toNat, by omega⟩
  have hj : j < 4 := by omega
  obtain ⟨w1, w2, w3, w4, w5, w6, w7, w8'⟩ := InvS_j hI hj
  have ref : ∀ (M1 : Mem) (P : Int → Mem → Prop), M1 209 j = M 209 j → M1 210 j = M 210 j → (M 209 j = 0 → P (-11) M1) → (M 209 j ≠ 0 → ¬ (0 ≤ a2 ∧ a2 < M 210 j) → P (-12) M1) → (M 209 j ≠ 0 → ∀ i : Nat, a2 = (i : Int) → (i : Int) < M 210 j → P 1 (st2 M1 211 (40 * j + i) (if M 209 j = 1 then w8 a3 else a3))) → wp_X12_put 189 (j : Int) a2 a3 M1 P := by
    intro M1 P e209 e210 c1 c2 c3
    unfold wp_X12_put wp_X12_isSheet wp_X12_put_b67
    rw [X12_within_iff, wl_0, wl_3, w32_R h1]
    refine dct (fun _ => ?_) (fun z => absurd e1 z)
    rw [rtv_189_31, rtv_189_32, rtv_189_33, ixn (show j < 2147483648 by omega), e209, e210, w32_id (z := M 209 j) (by omega) (by omega)]
    refine ⟨inbn LN_209 hj, fun u => ⟨inbn LN_210 hj, ?_⟩, fun u => c1 (by omega)⟩
    rw [X12_within_iff, wl_0, w32_R h2, w32_id (z := M 210 j - 1) (by omega) (by omega)]
    refine dct (fun z => ⟨inbn LN_209 hj, ?_⟩) (fun z => c2 u (by omega))
    obtain ⟨i, rfl⟩ : ∃ i : Nat, a2 = (i : Int) := ⟨a2.toNat, by omega⟩
    have c := c3 u i rfl (by omega)
    rw [wl_1, show (40 : Int) * (j : Int) + (i : Int) = ((40 * j + i : Nat) : Int) by omega, ixn (show 40 * j + i < 2147483648 by omega)]
    refine ⟨fun u2 => ⟨inbn LN_211 (by omega), ?_⟩, fun u2 => ⟨inbn LN_211 (by omega), ?_⟩⟩
    · rintro M67 rfl
      rw [if_neg u2] at c; exact c
    · rintro M67 rfl
      rw [if_pos (by omega)] at c; exact c
  rw [rtv_0_17, ixn (show j < 2147483648 by omega), rt_180 j hj]
  refine ⟨inbn LN_180 hj, ?_⟩
  rw [isMissing_iff w1 ⟨w2, w3⟩]
  refine dcf (fun z => ?_) (fun z => ⟨inbn LN_180 hj, ?_⟩)
  · exact ref M _ rfl rfl (fun _ => ⟨rfl, hI⟩) (fun q => absurd z q) (fun q => absurd z q)
  rw [hasItem_iff w4 ⟨w5, w6⟩ h2]
  refine dct (fun z2 => ⟨inbn LN_180 hj, ?_⟩) (fun z2 => ref M _ rfl rfl (fun q => absurd q z) (fun _ _ => ⟨rfl, hI⟩) (fun _ i hi hi2 => absurd (show 0 ≤ a2 ∧ a2 < M 210 j by omega) z2))
  obtain ⟨i, rfl⟩ : ∃ i : Nat, a2 = (i : Int) := ⟨a2.toNat, by omega⟩
  have good : ∀ y : Int, (y = if M 209 j = 1 then w8 a3 else a3) → ∀ M18 : Mem, M18 = st2 M (182 + 2 * j) i y → wp_X12_put 189 (j : Int) (i : Int) a3 M18 (fun r2 M2 => w32 1 = w32 r2 ∧ Inv DK M2) := by
    rintro y hy M18 rfl
    refine ref _ _ (st2_n _ _ (by omega)) (st2_n _ _ (by omega)) (fun q => absurd q z) (fun _ q => absurd z2 q) (fun _ c hc hc2 => ?_)
    have : c = i := by omega
    subst this
    rw [← hy]
    have hyR : R32 y := by
      rw [hy]
      split
      · exact w8_R _
      · exact h3
    refine ⟨rfl, Inv_sheet1 hD hI hj ?_ ?_ ?_ ?_ ?_ (fun d hd => ?_) (fun k d k1 k2 k3 k4 k5 => ?_)⟩
    · rw [st2_n _ _ (by omega), st2_n _ _ (by omega), st2_n _ _ (by omega), st2_n _ _ (by omega)]; exact w1
    · rw [st2_n _ _ (by omega), st2_n _ _ (by omega)]; exact ⟨w2, w3⟩
    · rw [st2_n _ _ (by omega), st2_n _ _ (by omega), st2_n _ _ (by omega), st2_n _ _ (by omega)]; exact w4
    · rw [st2_n _ _ (by omega), st2_n _ _ (by omega)]; exact ⟨w5, w6⟩
    · rw [st2_n _ _ (by omega), st2_n _ _ (by omega), st2_n _ _ (by omega), st2_n _ _ (by omega)]; exact w7
    · by_cases q : d = c
      · subst q
        rw [st2_off _ _ (by omega), st2_s, st2_s]
        exact ⟨rfl, hyR⟩
      · rw [st2_n _ _ (by omega), st2_n _ _ (by omega), st2_n _ _ (by omega), st2_n _ _ (by omega)]
        exact w8' d hd
    · rw [st2_n _ _ (by omega), st2_n _ _ (by omega)]
  unfold wp_X9_write wp_X9_write_b18
  rw [w1, w32_id (z := M 209 j - 1) (by omega) (by omega), rt_sheet j hj, ixn (show i < 2147483648 by omega)]
  refine ⟨fun u => ⟨inbn (LN_sheet hj) (by omega), good _ ?_⟩, fun u => ⟨inbn (LN_sheet hj) (by omega), good _ ?_⟩⟩
  · rw [if_neg (by omega)]
  · rw [if_pos (by omega)]
