/-! an image, and back to it -/
theorem X2_become_ok {a c f g : Nat} {M : Mem} {Q : Mem → Prop} (e1 : rt a 0 = f) (e2 : rt c 0 = g) (lf : LN f 61) (lg : LN g 61) (n : f ≠ g) (h : ∀ M' : Mem, (∀ j, j < 61 → M' f j = M g j) → (∀ k j, k ≠ f → M' k j = M k j) → Q M') : wp_X2_become a c M Q := by
  unfold wp_X2_become
  rw [e1, e2, lf.1, lg.1, wl_0, w32n (show 61 < 2147483648 by decide), ixn (show 61 < 2147483648 by decide), show ix 0 = 0 from rfl]
  refine ⟨by omega, ?_⟩
  rintro M15 rfl
  refine h _ (fun j hj => ?_) (fun k j hk => ?_)
  · unfold cpy
    rw [if_pos (by omega), Nat.sub_zero, Nat.zero_add]
  · unfold cpy
    rw [if_neg (by omega)]
theorem X0_become_ok {a c : Nat} (n : a ≠ c) {M : Mem} {Q : Mem → Prop} (h : ∀ M' : Mem, (∀ w, w < 7 → M' a w = M c w) → (∀ k j, ¬ (k = a ∧ j < 7) → M' k j = M k j) → Q M') : wp_X0_become a c M Q := by
  unfold wp_X0_become
  refine X0_begin_ok (fun M7 f0 f1 f2 f3 f4 f5 f6 f7 => ?_)
  rintro M33 rfl
  refine h _ (fun w hw => ?_) (fun k j hk => ?_)
  · have cw : w = 0 ∨ w = 1 ∨ w = 2 ∨ w = 3 ∨ w = 4 ∨ w = 5 ∨ w = 6 := by omega
    rcases cw with rfl | rfl | rfl | rfl | rfl | rfl | rfl
    · rw [st2_n _ _ (by omega), f0]
    · rw [st2_n _ _ (by omega), f1]
    · rw [st2_n _ _ (by omega), f2]
    · rw [st2_n _ _ (by omega), f3]
    · rw [st2_n _ _ (by omega), f4]
    · rw [st2_n _ _ (by omega), f5]
    · rw [st2_s, f7 _ _ (by omega)]
  · rw [st2_n _ _ (by omega), f7 _ _ hk]
theorem become_14_1 {M : Mem} {Q : Mem → Prop} (h : ∀ M' : Mem, (∀ j, j ≤ 60 → M' 16 j = M 3 j ∧ M' 18 j = M 5 j ∧ M' 20 j = M 7 j) → M' 14 4 = M 1 4 → (∀ b w, b < 5 → w < 7 → M' (22 + b) w = M (9 + b) w) → (∀ k j, k ≠ 16 → k ≠ 18 → k ≠ 20 → ¬ (k = 14 ∧ j = 4) → ¬ (22 ≤ k ∧ k < 22 + 5) → M' k j = M k j) → Q M') : wp_X1_become 14 1 M Q := by
  unfold wp_X1_become
  rw [rtv_14_0, rtv_14_1, rtv_14_2, rtv_1_0, rtv_1_1, rtv_1_2]
  refine X2_become_ok (f := 16) (g := 3) rtv_15_0 rtv_2_0 LN_16 LN_3 (by decide) (fun M8 d1 d2 => ?_)
  refine X2_become_ok (f := 18) (g := 5) rtv_17_0 rtv_4_0 LN_18 LN_5 (by decide) (fun M19 r1 r2 => ?_)
  refine X2_become_ok (f := 20) (g := 7) rtv_19_0 rtv_6_0 LN_20 LN_7 (by decide) (fun M30 l1 l2 => ?_)
  rintro M38 rfl
  have e4 : M30 1 4 = M 1 4 := by rw [l2 _ _ (by decide), r2 _ _ (by decide), d2 _ _ (by decide)]
  rw [e4]
  have fr : ∀ k j, k ≠ 16 → k ≠ 18 → k ≠ 20 → ¬ (k = 14 ∧ j = 4) → st2 M30 14 4 (M 1 4) k j = M k j := fun k j k1 k2 k3 k4 => by
    rw [st2_n _ _ k4, l2 _ _ k3, r2 _ _ k2, d2 _ _ k1]
  have v1 : ∀ j, j ≤ 60 → st2 M30 14 4 (M 1 4) 16 j = M 3 j ∧ st2 M30 14 4 (M 1 4) 18 j = M 5 j ∧ st2 M30 14 4 (M 1 4) 20 j = M 7 j := fun j hj => by
    refine ⟨?_, ?_, ?_⟩
    · rw [st2_off _ _ (by decide), l2 _ _ (by decide), r2 _ _ (by decide), d1 j (by omega)]
    · rw [st2_off _ _ (by decide), l2 _ _ (by decide), r1 j (by omega), d2 _ _ (by decide)]
    · rw [st2_off _ _ (by decide), l1 j (by omega), r2 _ _ (by decide), d2 _ _ (by decide)]
  have v2 : st2 M30 14 4 (M 1 4) 14 4 = M 1 4 := st2_s _ _ _ _
  generalize st2 M30 14 4 (M 1 4) = N at *
  refine ⟨fun M' x2 => ∃ m : Nat, x2 = (m : Int) ∧ m ≤ 5 ∧ (∀ b w, b < m → w < 7 → M' (22 + b) w = M (9 + b) w) ∧ (∀ k j, ¬ (22 ≤ k ∧ k < 22 + m) → M' k j = N k j), fun _ x2 => (5 - x2).toNat, ⟨0, rfl, by omega, fun b w hb => by omega, fun _ _ _ => rfl⟩, ?_⟩
  rintro M1 x2 ⟨m, rfl, hm, f1, f2⟩
  unfold wp_X1_become_B43
  dsimp only
  rw [wl_5, w32n (show m < 2147483648 by omega), rtv_14_3, rtv_1_3, ixn (show m < 2147483648 by omega)]
  refine ⟨fun u => ?_, fun u => ⟨inbn LN_21 (by omega), inbn LN_8 (by omega), ?_⟩⟩
  · have : m = 5 := by omega
    subst this
    refine h M1 (fun j hj => ?_) ?_ f1 (fun k j k1 k2 k3 k4 k5 => ?_)
    · rw [f2 _ _ (by decide), f2 _ _ (by decide), f2 _ _ (by decide)]
      exact v1 j hj
    · rw [f2 _ _ (by decide)]; exact v2
    · rw [f2 _ _ k5]; exact fr k j k1 k2 k3 k4
  · rw [rt_21 m (by omega), rt_8 m (by omega)]
    refine X0_become_ok (by omega) (fun M2 g1 g2 => ⟨⟨m + 1, by omega, by omega, fun b w hb hw => ?_, fun k j hk => ?_⟩, by omega⟩)
    · by_cases q : b = m
      · subst q
        rw [g1 w hw, f2 _ _ (by omega), fr _ _ (by omega) (by omega) (by omega) (by omega)]
      · rw [g2 _ _ (by omega)]
        exact f1 b w (by omega) hw
    · rw [g2 _ _ (by omega)]
      exact f2 k j (by omega)
theorem become_1_14 {M : Mem} {Q : Mem → Prop} (h : ∀ M' : Mem, (∀ j, j ≤ 60 → M' 3 j = M 16 j ∧ M' 5 j = M 18 j ∧ M' 7 j = M 20 j) → M' 1 4 = M 14 4 → (∀ b w, b < 5 → w < 7 → M' (9 + b) w = M (22 + b) w) → (∀ k j, k ≠ 3 → k ≠ 5 → k ≠ 7 → ¬ (k = 1 ∧ j = 4) → ¬ (9 ≤ k ∧ k < 9 + 5) → M' k j = M k j) → Q M') : wp_X1_become 1 14 M Q := by
  unfold wp_X1_become
  rw [rtv_1_0, rtv_1_1, rtv_1_2, rtv_14_0, rtv_14_1, rtv_14_2]
  refine X2_become_ok (f := 3) (g := 16) rtv_2_0 rtv_15_0 LN_3 LN_16 (by decide) (fun M8 d1 d2 => ?_)
  refine X2_become_ok (f := 5) (g := 18) rtv_4_0 rtv_17_0 LN_5 LN_18 (by decide) (fun M19 r1 r2 => ?_)
  refine X2_become_ok (f := 7) (g := 20) rtv_6_0 rtv_19_0 LN_7 LN_20 (by decide) (fun M30 l1 l2 => ?_)
  rintro M38 rfl
  have e4 : M30 14 4 = M 14 4 := by rw [l2 _ _ (by decide), r2 _ _ (by decide), d2 _ _ (by decide)]
  rw [e4]
  have fr : ∀ k j, k ≠ 3 → k ≠ 5 → k ≠ 7 → ¬ (k = 1 ∧ j = 4) → st2 M30 1 4 (M 14 4) k j = M k j := fun k j k1 k2 k3 k4 => by
    rw [st2_n _ _ k4, l2 _ _ k3, r2 _ _ k2, d2 _ _ k1]
  have v1 : ∀ j, j ≤ 60 → st2 M30 1 4 (M 14 4) 3 j = M 16 j ∧ st2 M30 1 4 (M 14 4) 5 j = M 18 j ∧ st2 M30 1 4 (M 14 4) 7 j = M 20 j := fun j hj => by
    refine ⟨?_, ?_, ?_⟩
    · rw [st2_off _ _ (by decide), l2 _ _ (by decide), r2 _ _ (by decide), d1 j (by omega)]
    · rw [st2_off _ _ (by decide), l2 _ _ (by decide), r1 j (by omega), d2 _ _ (by decide)]
    · rw [st2_off _ _ (by decide), l1 j (by omega), r2 _ _ (by decide), d2 _ _ (by decide)]
  have v2 : st2 M30 1 4 (M 14 4) 1 4 = M 14 4 := st2_s _ _ _ _
  generalize st2 M30 1 4 (M 14 4) = N at *
  refine ⟨fun M' x2 => ∃ m : Nat, x2 = (m : Int) ∧ m ≤ 5 ∧ (∀ b w, b < m → w < 7 → M' (9 + b) w = M (22 + b) w) ∧ (∀ k j, ¬ (9 ≤ k ∧ k < 9 + m) → M' k j = N k j), fun _ x2 => (5 - x2).toNat, ⟨0, rfl, by omega, fun b w hb => by omega, fun _ _ _ => rfl⟩, ?_⟩
  rintro M1 x2 ⟨m, rfl, hm, f1, f2⟩
  unfold wp_X1_become_B43
  dsimp only
  rw [wl_5, w32n (show m < 2147483648 by omega), rtv_1_3, rtv_14_3, ixn (show m < 2147483648 by omega)]
  refine ⟨fun u => ?_, fun u => ⟨inbn LN_8 (by omega), inbn LN_21 (by omega), ?_⟩⟩
  · have : m = 5 := by omega
    subst this
    refine h M1 (fun j hj => ?_) ?_ f1 (fun k j k1 k2 k3 k4 k5 => ?_)
    · rw [f2 _ _ (by decide), f2 _ _ (by decide), f2 _ _ (by decide)]
      exact v1 j hj
    · rw [f2 _ _ (by decide)]; exact v2
    · rw [f2 _ _ k5]; exact fr k j k1 k2 k3 k4
  · rw [rt_8 m (by omega), rt_21 m (by omega)]
    refine X0_become_ok (by omega) (fun M2 g1 g2 => ⟨⟨m + 1, by omega, by omega, fun b w hb hw => ?_, fun k j hk => ?_⟩, by omega⟩)
    · by_cases q : b = m
      · subst q
        rw [g1 w hw, f2 _ _ (by omega), fr _ _ (by omega) (by omega) (by omega) (by omega)]
      · rw [g2 _ _ (by omega)]
        exact f1 b w (by omega) hw
    · rw [g2 _ _ (by omega)]
      exact f2 k j (by omega)
/-- the reference keeps an image -/
theorem X12_image_ok {M : Mem} {Q : Int → Mem → Prop} (h : ∀ M' : Mem, fb M' 189 28 = true → M' 189 29 = M 189 3 → (∀ j, j ≤ 60 → M' 208 j = M 190 j ∧ M' 208 (61 + j) = M 191 j ∧ M' 208 (122 + j) = M 192 j) → (∀ j, j < 35 → M' 208 (183 + j) = M 193 j) → (∀ k j, k ≠ 208 → ¬ (k = 189 ∧ (j = 28 ∨ j = 29)) → M' k j = M k j) → Q (M 189 3) M') : wp_X12_image 189 M Q := by
  rintro M2 rfl M10 rfl
  rw [st2_n _ _ (by decide)]
  have fr : ∀ k j, ¬ (k = 189 ∧ (j = 28 ∨ j = 29)) → st2 (st2 M 189 28 (bz true)) 189 29 (M 189 3) k j = M k j := fun k j hk => by rw [st2_n _ _ (by omega), st2_n _ _ (by omega)]
  have v1 : fb (st2 (st2 M 189 28 (bz true)) 189 29 (M 189 3)) 189 28 = true := by
    rw [fb_n _ _ (by decide)]
    exact fb_s _ _ _ _
  have v2 : st2 (st2 M 189 28 (bz true)) 189 29 (M 189 3) 189 29 = M 189 3 := st2_s _ _ _ _
  generalize st2 (st2 M 189 28 (bz true)) 189 29 (M 189 3) = N at *
  refine ⟨fun M' x1 => ∃ m : Nat, x1 = (m : Int) ∧ m ≤ 61 ∧ (∀ j, j < m → M' 208 j = M 190 j ∧ M' 208 (61 + j) = M 191 j ∧ M' 208 (122 + j) = M 192 j) ∧ (∀ k j, k ≠ 208 → M' k j = N k j), fun _ x1 => (61 - x1).toNat, ⟨0, rfl, by omega, fun j hj => by omega, fun _ _ _ => rfl⟩, ?_⟩
  rintro M1 x1 ⟨m, rfl, hm, f1, f2⟩
  unfold wp_X12_image_B15
  dsimp only
  rw [wl_60, w32n (show m < 2147483648 by omega), rtv_189_0, rtv_189_1, rtv_189_2, rtv_189_30, ixn (show m < 2147483648 by omega), show (61 : Int) + (m : Int) = ((61 + m : Nat) : Int) by omega, show (122 : Int) + (m : Int) = ((122 + m : Nat) : Int) by omega, ixn (show 61 + m < 2147483648 by omega), ixn (show 122 + m < 2147483648 by omega)]
  refine ⟨fun u => ?_, fun u => ⟨inbn LN_190 (by omega), inbn LN_208 (by omega), ?_⟩⟩
  · have : m = 61 := by omega
    subst this
    clear u hm
    refine ⟨fun M' x1 => ∃ m : Nat, x1 = (m : Int) ∧ m ≤ 35 ∧ (∀ j, j < m → M' 208 (183 + j) = M 193 j) ∧ (∀ k j, ¬ (k = 208 ∧ 183 ≤ j) → M' k j = M1 k j), fun _ x1 => (35 - x1).toNat, ⟨0, rfl, by omega, fun j hj => by omega, fun _ _ _ => rfl⟩, ?_⟩
    rintro M3 x1 ⟨m, rfl, hm, g1, g2⟩
    unfold wp_X12_image_B71
    dsimp only
    rw [wl_35, w32n (show m < 2147483648 by omega), rtv_189_4, rtv_189_30, ixn (show m < 2147483648 by omega), show (183 : Int) + (m : Int) = ((183 + m : Nat) : Int) by omega, ixn (show 183 + m < 2147483648 by omega)]
    refine ⟨fun u => ?_, fun u => ⟨inbn LN_193 (by omega), inbn LN_208 (by omega), ?_⟩⟩
    · have : m = 35 := by omega
      subst this
      rw [g2 189 3 (by omega), f2 189 3 (by omega), fr 189 3 (by omega)]
      refine h M3 ?_ ?_ (fun j hj => ?_) g1 (fun k j k1 k2 => ?_)
      · rw [← v1]
        exact fb_eq (by rw [g2 189 28 (by omega), f2 189 28 (by omega)])
      · rw [g2 189 29 (by omega), f2 189 29 (by omega), v2]
      · rw [g2 208 j (by omega), g2 208 (61 + j) (by omega), g2 208 (122 + j) (by omega)]
        exact f1 j (by omega)
      · rw [g2 k j (by omega), f2 k j k1, fr k j k2]
    · rintro M92 rfl
      refine ⟨⟨m + 1, by omega, by omega, fun j hj => ?_, fun k j hk => ?_⟩, by omega⟩
      · by_cases q : j = m
        · subst q
          rw [st2_s, g2 193 j (by omega), f2 193 j (by omega), fr 193 j (by omega)]
        · rw [st2_n _ _ (by omega)]; exact g1 j (by omega)
      · rw [st2_n _ _ (by omega)]; exact g2 k j hk
  · rintro M32 rfl
    refine ⟨inbn LN_191 (by omega), inbn LN_208 (by omega), ?_⟩
    rw [st2_off _ _ (show 191 ≠ 208 by decide), f2 190 m (by omega), fr 190 m (by omega), f2 191 m (by omega), fr 191 m (by omega)]
    rintro M47 rfl
    refine ⟨inbn LN_192 (by omega), inbn LN_208 (by omega), ?_⟩
    rw [st2_off _ _ (show 192 ≠ 208 by decide), st2_off _ _ (show 192 ≠ 208 by decide), f2 192 m (by omega), fr 192 m (by omega)]
    rintro M62 rfl
    refine ⟨⟨m + 1, by omega, by omega, fun j hj => ?_, fun k j hk => ?_⟩, by omega⟩
    · by_cases q : j = m
      · subst q
        refine ⟨?_, ?_, ?_⟩
        all_goals simp (disch := omega) only [st2_h, st2_n]
      · obtain ⟨a1, a2, a3⟩ := f1 j (by omega)
        refine ⟨?_, ?_, ?_⟩
        · rw [st2_n _ _ (by omega), st2_n _ _ (by omega), st2_n _ _ (by omega)]; exact a1
        · rw [st2_n _ _ (by omega), st2_n _ _ (by omega), st2_n _ _ (by omega)]; exact a2
        · rw [st2_n _ _ (by omega), st2_n _ _ (by omega), st2_n _ _ (by omega)]; exact a3
    · rw [st2_off _ _ hk, st2_off _ _ hk, st2_off _ _ hk]; exact f2 k j hk
theorem step_25 {DK : Mem → Prop} (hD : KeptH DK) : Step_25 (Inv DK) := by
  intro M hI
  obtain ⟨n1, n2⟩ := Inv_n hI
  obtain ⟨hB, hK, hR, hIm, hS, hN, hC⟩ := id hI
  unfold wp_X11_image
  rw [rtv_0_0, rtv_0_1]
  refine become_14_1 (fun M8 a1 a2 a3 a4 => ?_)
  rintro M13 rfl
  refine X12_image_ok (fun M2 b1 b2 b3 b4 b5 => ?_)
  have e0 : ∀ k j, ¬ (k = 0 ∧ j = 2) → k ≠ 14 → k ≠ 16 → k ≠ 18 → k ≠ 20 → ¬ (22 ≤ k ∧ k < 27) → st2 M8 0 2 (bz true) k j = M k j := fun k j k1 k2 k3 k4 k5 k6 => by
    rw [st2_n _ _ k1]
    exact a4 k j k3 k4 k5 (by omega) k6
  have e1 : ∀ k j, k ≠ 208 → ¬ (k = 189 ∧ (j = 28 ∨ j = 29)) → ¬ (k = 0 ∧ j = 2) → k ≠ 14 → k ≠ 16 → k ≠ 18 → k ≠ 20 → ¬ (22 ≤ k ∧ k < 27) → M2 k j = M k j := fun k j k1 k2 k3 k4 k5 k6 k7 k8 => by
    rw [b5 k j k1 k2, e0 k j k3 k4 k5 k6 k7 k8]
  have row : ∀ k, (1 ≤ k ∧ k ≤ 13) ∨ (27 ≤ k ∧ k < 189) ∨ (190 ≤ k ∧ k < 208) ∨ 208 < k → M2 k = M k := fun k hk => funext fun j => e1 k j (by omega) (by omega) (by omega) (by omega) (by omega) (by omega) (by omega) (by omega)
  have e3 : M2 189 3 = M 189 3 := e1 189 3 (by omega) (by omega) (by omega) (by omega) (by omega) (by omega) (by omega) (by omega)
  have e5 : M2 189 5 = M 189 5 := e1 189 5 (by omega) (by omega) (by omega) (by omega) (by omega) (by omega) (by omega) (by omega)
  have c5 : fb M2 0 5 = fb M 0 5 := fb_eq (e1 0 5 (by omega) (by omega) (by omega) (by omega) (by omega) (by omega) (by omega) (by omega))
  have c13 : fb M2 0 13 = fb M 0 13 := fb_eq (e1 0 13 (by omega) (by omega) (by omega) (by omega) (by omega) (by omega) (by omega) (by omega))
  refine ⟨?_, ?_, ?_, ?_, ?_, ?_, ?_, ?_⟩
  · rw [st2_n _ _ (by decide), a4 1 4 (by decide) (by decide) (by decide) (by decide) (by decide), e0 189 3 (by omega) (by omega) (by omega) (by omega) (by omega) (by omega), n1]
  · unfold InvB at *
    rw [row 3 (by omega), row 5 (by omega), row 7 (by omega), row 1 (by omega), row 190 (by omega), row 191 (by omega), row 192 (by omega), row 193 (by omega), e3]
    exact BookR_congr hB (fun k hk => ⟨rfl, rfl, rfl, rfl, rfl, rfl⟩) rfl rfl (fun _ _ => rfl) (fun b w hb hw => by rw [row (9 + b) (by omega)])
  · unfold InvK at *
    rw [row 2 (by omega), row 4 (by omega), row 6 (by omega)]
    exact hK
  · unfold InvR at *
    rw [row 190 (by omega), row 194 (by omega), row 195 (by omega), e5]
    exact hR
  · unfold InvI
    have t2 : fb M2 0 2 = true := by
      have : M2 0 2 = bz true := by rw [b5 0 2 (by omega) (by omega), st2_s]
      unfold fb
      rw [this]
      rfl
    rw [t2, b1]
    refine ⟨rfl, fun _ => BookR_congr hB (fun k hk => ?_) ?_ ?_ (fun j hj => ?_) (fun b w hb hw => ?_)⟩
    · obtain ⟨x1, x2, x3⟩ := a1 k hk
      obtain ⟨y1, y2, y3⟩ := b3 k hk
      rw [b5 16 k (by omega) (by omega), b5 18 k (by omega) (by omega), b5 20 k (by omega) (by omega), st2_off _ _ (show 16 ≠ 0 by decide), st2_off _ _ (show 18 ≠ 0 by decide), st2_off _ _ (show 20 ≠ 0 by decide)]
      refine ⟨x1, x2, x3, ?_, ?_, ?_⟩
      · rw [y1]; exact e0 190 k (by omega) (by omega) (by omega) (by omega) (by omega) (by omega)
      · try dsimp only
        rw [y2]; exact e0 191 k (by omega) (by omega) (by omega) (by omega) (by omega) (by omega)
      · try dsimp only
        rw [y3]; exact e0 192 k (by omega) (by omega) (by omega) (by omega) (by omega) (by omega)
    · rw [b5 14 4 (by omega) (by omega), st2_off _ _ (show 14 ≠ 0 by decide)]; exact a2
    · rw [b2]; exact e0 189 3 (by omega) (by omega) (by omega) (by omega) (by omega) (by omega)
    · try dsimp only
      rw [b4 j hj]; exact e0 193 j (by omega) (by omega) (by omega) (by omega) (by omega) (by omega)
    · try dsimp only
      rw [b5 (22 + b) w (by omega) (by omega), st2_off _ _ (show 22 + b ≠ 0 by omega)]
      exact a3 b w hb hw
  · unfold InvS at *
    intro j hj
    rw [row 209 (by omega), row 210 (by omega), row 211 (by omega), row (181 + 2 * j) (by omega), row (182 + 2 * j) (by omega)]
    exact hS j hj
  · unfold InvN at *
    rw [row 69 (by omega)]
    exact hN
  · intro q
    rw [c5] at q
    obtain ⟨u1, u2⟩ := hC q
    refine ⟨?_, fun q2 => hD M M2 (fun k j z => ?_) (u2 (by rw [← c13]; exact q2))⟩
    · unfold SceneOK at *
      obtain ⟨v1, v2, v3, v4⟩ := u1
      rw [row 190 (by omega), row 191 (by omega), row 192 (by omega), row 193 (by omega), e3, row 27 (by omega), row (27 + 1) (by omega), row (27 + 2) (by omega), row (27 + 3) (by omega), row (27 + 4) (by omega), row (27 + 5) (by omega), row (27 + 6) (by omega), row (27 + 19) (by omega), row (27 + 20) (by omega)]
      refine ⟨v1, v2, v3, fun b hb => ?_⟩
      have hb5 : b < 5 := by omega
      rw [row (27 + 8 + b) (by omega), row (27 + 14 + b) (by omega)]
      exact v4 b hb
    · unfold keepH at z
      simp only [Bool.or_eq_true, Bool.and_eq_true, decide_eq_true_eq] at z
      exact e1 k j (by omega) (by omega) (by omega) (by omega) (by omega) (by omega) (by omega) (by omega)
/-- the reference comes back to its image -/
theorem X12_back_ok {M : Mem} {Q : Int → Mem → Prop} (hf : fb M 189 28 = true) (hr : ∀ j, j ≤ 60 → R32 (M 208 j)) (h5 : cnt (M 208) 60 ≤ 5) (h : ∀ M' : Mem, M' 189 3 = M 189 29 → (∀ j, j ≤ 60 → M' 190 j = M 208 j ∧ M' 191 j = M 208 (61 + j) ∧ M' 192 j = M 208 (122 + j)) → (∀ j, j < 35 → M' 193 j = M 208 (183 + j)) → M' 189 5 = (rungs (M' 190) : Int) → (∀ i, i < rungs (M' 190) → M' 194 i = (dayS (M' 190) i : Int)) → (∀ k j, ¬ (190 ≤ k ∧ k ≤ 194) → ¬ (k = 189 ∧ (j = 3 ∨ j = 5)) → M' k j = M k j) → Q (M 189 29) M') : wp_X12_back 189 M Q := by
  unfold wp_X12_back
  refine ⟨fun _ => ?_, fun z => by rw [hf] at z; cases z⟩
  rintro M15 rfl
  have fr : ∀ k j, ¬ (k = 189 ∧ j = 3) → st2 M 189 3 (M 189 29) k j = M k j := fun k j hk => st2_n _ _ hk
  have v2 : st2 M 189 3 (M 189 29) 189 3 = M 189 29 := st2_s _ _ _ _
  generalize st2 M 189 3 (M 189 29) = N at *
  refine ⟨fun M' x1 => ∃ m : Nat, x1 = (m : Int) ∧ m ≤ 61 ∧ (∀ j, j < m → M' 190 j = M 208 j ∧ M' 191 j = M 208 (61 + j) ∧ M' 192 j = M 208 (122 + j)) ∧ (∀ k j, ¬ (190 ≤ k ∧ k ≤ 192) → M' k j = N k j), fun _ x1 => (61 - x1).toNat, ⟨0, rfl, by omega, fun j hj => by omega, fun _ _ _ => rfl⟩, ?_⟩
  rintro M1 x1 ⟨m, rfl, hm, f1, f2⟩
  unfold wp_X12_back_B20
  dsimp only
  rw [wl_60, w32n (show m < 2147483648 by omega), rtv_189_0, rtv_189_1, rtv_189_2, rtv_189_30, ixn (show m < 2147483648 by omega), show (61 : Int) + (m : Int) = ((61 + m : Nat) : Int) by omega, show (122 : Int) + (m : Int) = ((122 + m : Nat) : Int) by omega, ixn (show 61 + m < 2147483648 by omega), ixn (show 122 + m < 2147483648 by omega)]
  refine ⟨fun u => ?_, fun u => ⟨inbn LN_208 (by omega), inbn LN_190 (by omega), ?_⟩⟩
  · have : m = 61 := by omega
    subst this
    clear u hm
    refine ⟨fun M' x1 => ∃ m : Nat, x1 = (m : Int) ∧ m ≤ 35 ∧ (∀ j, j < m → M' 193 j = M 208 (183 + j)) ∧ (∀ k j, k ≠ 193 → M' k j = M1 k j), fun _ x1 => (35 - x1).toNat, ⟨0, rfl, by omega, fun j hj => by omega, fun _ _ _ => rfl⟩, ?_⟩
    rintro M3 x1 ⟨m, rfl, hm, g1, g2⟩
    unfold wp_X12_back_B76
    dsimp only
    rw [wl_35, w32n (show m < 2147483648 by omega), rtv_189_4, rtv_189_30, ixn (show m < 2147483648 by omega), show (183 : Int) + (m : Int) = ((183 + m : Nat) : Int) by omega, ixn (show 183 + m < 2147483648 by omega)]
    refine ⟨fun u => ?_, fun u => ⟨inbn LN_208 (by omega), inbn LN_193 (by omega), ?_⟩⟩
    · have : m = 35 := by omega
      subst this
      have r0 : ∀ j, j ≤ 60 → M3 190 j = M 208 j := fun j hj => by rw [g2 _ _ (by decide)]; exact (f1 j (by omega)).1
      have cc : cnt (M3 190) 60 = cnt (M 208) 60 := cntP_congr fun k _ hk => by unfold pos; rw [r0 k hk]
      refine finds_ok (fun j hj => by rw [r0 j hj]; exact hr j hj) (by rw [cc]; exact h5) ?_
      intro M' w1 w2 w3
      have r1 : M' 190 = M3 190 := funext fun j => w3 190 j (by decide) (by omega)
      rw [w3 189 3 (by decide) (by decide), g2 189 3 (by decide), f2 189 3 (by decide), v2]
      refine h M' ?_ (fun j hj => ?_) (fun j hj => ?_) (by rw [r1]; exact w1) (by rw [r1]; exact w2) (fun k j k1 k2 => ?_)
      · rw [w3 189 3 (by decide) (by decide), g2 189 3 (by decide), f2 189 3 (by decide), v2]
      · rw [w3 _ _ (by decide) (by omega), w3 _ _ (by decide) (by omega), w3 _ _ (by decide) (by omega), g2 _ _ (by decide), g2 _ _ (by decide), g2 _ _ (by decide)]
        exact f1 j (by omega)
      · rw [w3 _ _ (by decide) (by omega)]
        exact g1 j hj
      · rw [w3 _ _ (by omega) (by omega), g2 _ _ (by omega), f2 _ _ (by omega), fr _ _ (by omega)]
    · rintro M97 rfl
      refine ⟨⟨m + 1, by omega, by omega, fun j hj => ?_, fun k j hk => ?_⟩, by omega⟩
      · by_cases q : j = m
        · subst q
          rw [st2_s, g2 _ _ (by omega), f2 _ _ (by omega), fr _ _ (by omega)]
        · rw [st2_n _ _ (by omega)]; exact g1 j (by omega)
      · rw [st2_off _ _ hk]; exact g2 k j hk
  · rintro M37 rfl
    refine ⟨inbn LN_208 (by omega), inbn LN_191 (by omega), ?_⟩
    rw [st2_off _ _ (show 208 ≠ 190 by decide), f2 208 m (by omega), fr 208 m (by omega), f2 208 (61 + m) (by omega), fr 208 (61 + m) (by omega)]
    rintro M52 rfl
    refine ⟨inbn LN_208 (by omega), inbn LN_192 (by omega), ?_⟩
    rw [st2_off _ _ (show 208 ≠ 191 by decide), st2_off _ _ (show 208 ≠ 190 by decide), f2 208 (122 + m) (by omega), fr 208 (122 + m) (by omega)]
    rintro M67 rfl
    refine ⟨⟨m + 1, by omega, by omega, fun j hj => ?_, fun k j hk => ?_⟩, by omega⟩
    · by_cases q : j = m
      · subst q
        refine ⟨?_, ?_, ?_⟩
        all_goals simp (disch := omega) only [st2_h, st2_n]
      · obtain ⟨a1, a2, a3⟩ := f1 j (by omega)
        refine ⟨?_, ?_, ?_⟩
        · rw [st2_n _ _ (by omega), st2_n _ _ (by omega), st2_n _ _ (by omega)]; exact a1
        · rw [st2_n _ _ (by omega), st2_n _ _ (by omega), st2_n _ _ (by omega)]; exact a2
        · rw [st2_n _ _ (by omega), st2_n _ _ (by omega), st2_n _ _ (by omega)]; exact a3
    · rw [st2_off _ _ (by omega), st2_off _ _ (by omega), st2_off _ _ (by omega)]; exact f2 k j hk
theorem step_26 {DK : Mem → Prop} : Step_26 (Inv DK) := by
  intro M hI
  obtain ⟨hB, hK, hR, hIm, hS, hN, hC⟩ := id hI
  unfold wp_X11_back
  refine ⟨fun q => ?_, fun q => ?_⟩
  case refine_2 =>
    unfold wp_X12_back
    exact ⟨fun z => (by rw [← hIm.1, q] at z; cases z), fun _ => ⟨rfl, hI⟩⟩
  have hb := hIm.2 q
  have q' : fb M 189 28 = true := by rw [← hIm.1]; exact q
  rw [rtv_0_0, rtv_0_1]
  rintro M12 rfl
  refine become_1_14 (fun M23 a1 a2 a3 a4 => ?_)
  have e0 : ∀ k j, ¬ (k = 0 ∧ j = 5) → ¬ (1 ≤ k ∧ k ≤ 13 ∧ (k ≠ 1 ∨ j = 4) ∧ k ≠ 2 ∧ k ≠ 4 ∧ k ≠ 6 ∧ k ≠ 8) → M23 k j = M k j := fun k j k1 k2 => by
    rw [a4 k j (by omega) (by omega) (by omega) (by omega) (by omega), st2_n _ _ k1]
  have s0 : ∀ k j, k ≠ 0 → st2 M 0 5 (bz true) k j = M k j := fun k j hk => by rw [st2_off _ _ hk]
  have o208 : M23 208 = M 208 := funext fun j => e0 208 j (by omega) (by omega)
  refine X12_back_ok (by rw [fb_eq (e0 189 28 (by omega) (by omega))]; exact q') (fun j hj => ?_) (by rw [o208]; exact hb.2.2.1) (fun M2 b1 b2 b3 b4 b5 b6 => ?_)
  · rw [o208]
    obtain ⟨u1, u2, u3, -⟩ := hb.1 j hj
    exact ⟨by omega, by omega⟩
  rw [o208] at b2 b3
  have o29 : M23 189 29 = M 189 29 := e0 189 29 (by omega) (by omega)
  rw [o29] at b1 ⊢
  refine ⟨?_, Inv_told hI ?_ ⟨b4, b5⟩ ?_ (fun k j z => ?_)⟩
  · rw [a2, s0 14 4 (by decide), hb.2.2.2.2.2.1]
  · unfold InvB
    refine BookR_congr hb (fun k hk => ?_) ?_ b1 b3 (fun b w hb2 hw => ?_)
    · obtain ⟨x1, x2, x3⟩ := a1 k hk
      obtain ⟨y1, y2, y3⟩ := b2 k hk
      rw [b6 3 k (by omega) (by omega), b6 5 k (by omega) (by omega), b6 7 k (by omega) (by omega), x1, x2, x3, s0 16 k (by decide), s0 18 k (by decide), s0 20 k (by decide)]
      exact ⟨rfl, rfl, rfl, y1, y2, y3⟩
    · rw [b6 1 4 (by omega) (by omega), a2, s0 14 4 (by decide)]
    · try dsimp only
      rw [b6 (9 + b) w (by omega) (by omega), a3 b w hb2 hw, s0 (22 + b) w (by omega)]
  · have : M2 0 5 = bz true := by rw [b6 0 5 (by omega) (by omega), a4 0 5 (by omega) (by omega) (by omega) (by omega) (by omega), st2_s]
    unfold fb
    rw [this]
    rfl
  · have z' : ¬ (190 ≤ k ∧ k ≤ 194) ∧ ¬ (k = 189 ∧ (j = 3 ∨ j = 5)) ∧ ¬ (k = 0 ∧ j = 5) ∧ ¬ (1 ≤ k ∧ k ≤ 13 ∧ (k ≠ 1 ∨ j = 4) ∧ k ≠ 2 ∧ k ≠ 4 ∧ k ≠ 6 ∧ k ≠ 8) := by
      unfold bkc at z
      by_cases h0 : k = 0
      · subst h0; simp at z; omega
      · rw [if_neg h0] at z
        by_cases h1 : k = 1
        · subst h1; simp at z; omega
        · rw [if_neg h1] at z
          by_cases h2 : k = 189
          · subst h2; simp at z; omega
          · rw [if_neg h2] at z
            simp only [Bool.or_eq_false_iff, Bool.and_eq_false_iff, decide_eq_false_iff_not] at z
            omega
    rw [b6 k j z'.1 z'.2.1, e0 k j z'.2.2.1 z'.2.2.2]
