/-! changes of the book: hold, bond -/
theorem st2_h (M : Mem) {k j a c : Nat} (z : Int) (h : a = k ∧ c = j) : st2 M k j z a c = z := by
  obtain ⟨rfl, rfl⟩ := h
  exact st2_s _ _ _ _
theorem Inv_chg {DK : Mem → Prop} {M M' : Mem} (hI : Inv DK M) (hB : InvB M') (hR : M' 189 5 = (rungs (M' 190) : Int) ∧ ∀ i, i < rungs (M' 190) → M' 194 i = (dayS (M' 190) i : Int)) (hC : InvC DK M') (hS : ∀ k j, bkc k j = false → M' k j = M k j) : Inv DK M' := by
  have row : ∀ k : Nat, (k = 2 || k = 4 || k = 6 || (14 ≤ k && k < 189) || 195 ≤ k) = true → M' k = M k := fun k hk => funext fun j => hS k j (bkc_row hk j)
  obtain ⟨h1, h2, h3, h4, h5', h6, h7⟩ := hI
  refine ⟨hB, ?_, ?_, ?_, ?_, ?_, hC⟩
  · unfold InvK at *
    rw [row 2 rfl, row 4 rfl, row 6 rfl]
    exact h2
  · unfold InvR at *
    refine ⟨hR.1, hR.2, ?_⟩
    rw [row 195 rfl]
    exact h3.2.2
  · unfold InvI at *
    rw [fb_eq (hS 0 2 rfl), fb_eq (hS 189 28 rfl)]
    refine ⟨h4.1, fun q => ?_⟩
    obtain ⟨q1, q2, q3, q4, q5, q6, q7, q8, q9⟩ := h4.2 q
    rw [row 16 rfl, row 18 rfl, row 20 rfl, row 14 rfl, row 208 rfl, hS 189 29 rfl]
    refine ⟨q1, q2, q3, q4, q5, q6, q7, q8, fun b hb => ?_⟩
    have := q9 b hb
    have hb5 : b < 5 := by omega
    dsimp only at this ⊢
    rw [row (22 + b) (by grind)]
    exact this
  · unfold InvS at *
    intro j hj
    rw [row 209 rfl, row 210 rfl, row 211 rfl, row (181 + 2 * j) (by grind), row (182 + 2 * j) (by grind)]
    exact h5' j hj
  · unfold InvN at *
    rw [row 69 rfl]
    exact h6
theorem BookR_congr {D R L : F1} {B : Nat → F1} {nb : Int} {d r l t : F1} {n : Int} {D' R' L' : F1} {B' : Nat → F1} {nb' : Int} {d' r' l' t' : F1} {n' : Int} (h : BookR D R L B nb d r l t n) (h1 : ∀ k, k ≤ 60 → D' k = D k ∧ R' k = R k ∧ L' k = L k ∧ d' k = d k ∧ r' k = r k ∧ l' k = l k) (h2 : nb' = nb) (h3 : n' = n) (h4 : ∀ j, j < 35 → t' j = t j) (h5 : ∀ b w, b < 5 → w < 7 → B' b w = B b w) : BookR D' R' L' B' nb' d' r' l' t' n' := by
  obtain ⟨q1, q2, q3, q4, q5, q6, q7, q8, q9⟩ := h
  have cc : ∀ {e e' : F1}, (∀ k, k ≤ 60 → e' k = e k) → cnt e' 60 = cnt e 60 := fun {e e'} he => cntP_congr fun k _ hk => by unfold pos; rw [he k hk]
  subst h2 h3
  refine ⟨fun k hk => ?_, ?_, ?_, ?_, ?_, q6, q7, q8, fun b hb => ?_⟩
  · obtain ⟨a1, a2, a3, a4, a5, a6⟩ := h1 k hk
    rw [a1, a2, a3, a4, a5, a6]
    exact q1 k hk
  · obtain ⟨a1, a2, a3, a4, a5, a6⟩ := h1 0 (by omega)
    rw [a4, a5, a6]
    exact q2
  · rw [cc fun k hk => (h1 k hk).2.2.2.1]; exact q3
  · rw [cc fun k hk => (h1 k hk).2.2.2.2.1]; exact q4
  · rw [cc fun k hk => (h1 k hk).2.2.2.2.2]; exact q5
  · obtain ⟨w1, w2, w3, w4, w5, w6, w7, w8⟩ := q9 b hb
    have hb5 : b < 5 := by omega
    rw [h4 b (by omega), h4 (5 + b) (by omega), h4 (10 + b) (by omega), h4 (15 + b) (by omega), h4 (20 + b) (by omega), h4 (25 + b) (by omega), h4 (30 + b) (by omega)]
    refine ⟨fun w hw => ?_, w2, w3, w4, w5, w6, w7, w8⟩
    rw [h5 b w hb5 hw, h4 (5 * w + b) (by omega)]
    exact w1 w hw
theorem payT_congr {t t' : F1} (h : ∀ j, j < 30 → t' j = t j) {b : Nat} (hb : b < 5) (R : F1) : payT t' b R = payT t b R := by
  funext k
  unfold payT
  rw [h b (by omega), h (10 + b) (by omega), h (15 + b) (by omega), h (20 + b) (by omega), h (25 + b) (by omega)]
theorem payAt_congr {t t' : F1} (h : ∀ j, j < 30 → t' j = t j) {b : Nat} (hb : b < 5) (d R : F1) (i : Nat) : payAt d t' b R i = payAt d t b R i := by
  unfold payAt
  rw [payT_congr h hb]
theorem SceneOK_held {M : Mem} {s : Nat} {d r l t t' y : F1} {n : Int} (hS : SceneOK M s d r l t y n) (h : ∀ j, j < 30 → t' j = t j) (hn : n ≤ 5) : SceneOK M s d r l t' y n := by
  obtain ⟨v1, v2, v3, v4⟩ := hS
  refine ⟨v1, v2, v3, fun b hb => ?_⟩
  have hb5 : b < 5 := by omega
  have := v4 b hb
  rw [allS_eq, lastS_eq] at this ⊢
  rw [payT_congr h hb5]
  refine ⟨this.1, fun i hi => ?_, this.2.2⟩
  rw [payAt_congr h hb5]
  exact this.2.1 i hi
theorem step_6 {DK : Mem → Prop} (hD : KeptH DK) : Step_6 (Inv DK) := by
  intro M hI a1 a2 h1 h2
  obtain ⟨n1, n2⟩ := Inv_n hI
  have bad : ¬ ((0 ≤ a1 ∧ a1 < M 189 3) ∧ (0 ≤ a2 ∧ a2 ≤ 99)) → wp_X12_hold 189 a1 a2 M (fun r2 M2 => w32 (-2) = w32 r2 ∧ Inv DK M2) := by
    intro e
    unfold wp_X12_hold
    rw [isBond_iff rfl n2 h1]
    refine dcf (fun z => ?_) (fun _ => ⟨rfl, hI⟩)
    rw [X12_within_iff, wl_0, wl_99, w32_R h2]
    exact dct (fun z2 => absurd ⟨z, z2⟩ e) (fun _ => ⟨rfl, hI⟩)
  unfold wp_X11_hold
  rw [rtv_0_0, hasBond_iff n1 n2 h1]
  refine dcf (fun e => ?_) (fun e => bad (fun z => e z.1))
  rw [X11_within_iff, wl_0, wl_99, w32_R h2]
  refine dct (fun e2 => ?_) (fun e2 => bad (fun z => e2 z.2))
  obtain ⟨b, rfl, hb⟩ := natOfI e
  have hb5 : b < 5 := by omega
  obtain ⟨hB, hK, hR, hIm, hS, hN, hC⟩ := id hI
  have t6 := (BookR_t hB hb).2.1 6 (by decide)
  rw [rtv_1_3, ixn (show b < 2147483648 by omega), rt_8 b hb5]
  refine ⟨inbn LN_8 hb5, ?_⟩
  rintro v36 rfl
  refine ⟨inbn LN_8 hb5, ?_⟩
  rintro M47 rfl
  unfold wp_X12_hold
  rw [isBond_iff (n := M 189 3) (st2_n _ _ (by omega)) n2 h1]
  refine dcf (fun _ => ?_) (fun z => absurd e z)
  rw [X12_within_iff, wl_0, wl_99, w32_R h2]
  refine dct (fun _ => ?_) (fun z => absurd e2 z)
  refine of_ok (w := 6) rfl hb5 (by decide) ?_
  rw [rtv_189_4, show (30 : Int) + (b : Int) = ((30 + b : Nat) : Int) by omega, ixn (show 30 + b < 2147483648 by omega)]
  refine ⟨inbn LN_193 (by omega), ?_⟩
  rintro M38 rfl
  have k1 : ∀ a, a ≠ 193 → a ≠ 9 + b → st2 (st2 M (9 + b) 6 a2) 193 (30 + b) a2 a = M a := fun a z1 z2 => by rw [st2_off _ _ z1, st2_off _ _ z2]
  have k2 : ∀ j, j < 30 → st2 (st2 M (9 + b) 6 a2) 193 (30 + b) a2 193 j = M 193 j := fun j hj => by rw [st2_n _ _ (by omega), st2_n _ _ (by omega)]
  refine ⟨?_, Inv_chg hI ?_ ?_ ?_ ?_⟩
  · rw [st2_off _ _ (show 193 ≠ 9 + b by omega), t6]
  · unfold InvB at *
    rw [k1 3 (by omega) (by omega), k1 5 (by omega) (by omega), k1 7 (by omega) (by omega), k1 1 (by omega) (by omega), k1 190 (by omega) (by omega), k1 191 (by omega) (by omega), k1 192 (by omega) (by omega), k1 189 (by omega) (by omega)]
    obtain ⟨p1, p2, p3, p4, p5, p6, p7, p8, p9⟩ := hB
    refine ⟨p1, p2, p3, p4, p5, p6, p7, p8, fun c hc => ?_⟩
    obtain ⟨w1, w2, w3, w4, w5, w6, w7, w8⟩ := p9 c hc
    have hc5 : c < 5 := by omega
    rw [k2 c (by omega), k2 (5 + c) (by omega), k2 (10 + c) (by omega), k2 (15 + c) (by omega), k2 (20 + c) (by omega), k2 (25 + c) (by omega)]
    refine ⟨fun w hw => ?_, w2, w3, w4, w5, w6, w7, ?_⟩
    · have hw1 := w1 w hw
      dsimp only at hw1 ⊢
      by_cases q : c = b ∧ w = 6
      · obtain ⟨rfl, rfl⟩ := q
        rw [st2_off _ _ (by omega), st2_s, st2_h _ _ (by omega)]
      · rw [st2_n _ _ (by omega), st2_n _ _ (by omega), st2_n _ _ (by omega), st2_n _ _ (by omega)]
        exact hw1
    · by_cases q : c = b
      · subst q
        rw [st2_s]
        exact e2
      · rw [st2_n _ _ (by omega), st2_n _ _ (by omega)]
        exact w8
  · rw [k1 189 (by omega) (by omega), k1 190 (by omega) (by omega), k1 194 (by omega) (by omega)]
    exact ⟨hR.1, hR.2.1⟩
  · intro q
    have q' : fb M 0 5 = false := by
      rw [← q]
      exact (fb_eq (by rw [k1 0 (by omega) (by omega)])).symm
    obtain ⟨c1, c2⟩ := hC q'
    refine ⟨?_, fun q2 => hD M _ (fun a j z => ?_) (c2 ?_)⟩
    · have c3 := SceneOK_held (t' := st2 (st2 M (9 + b) 6 a2) 193 (30 + b) a2 193) c1 k2 n2.2
      unfold SceneOK at *
      obtain ⟨v1, v2, v3, v4⟩ := c3
      rw [k1 190 (by omega) (by omega), k1 191 (by omega) (by omega), k1 192 (by omega) (by omega), k1 189 (by omega) (by omega), k1 27 (by omega) (by omega), k1 (27 + 1) (by omega) (by omega), k1 (27 + 2) (by omega) (by omega), k1 (27 + 3) (by omega) (by omega), k1 (27 + 4) (by omega) (by omega), k1 (27 + 5) (by omega) (by omega), k1 (27 + 6) (by omega) (by omega), k1 (27 + 19) (by omega) (by omega), k1 (27 + 20) (by omega) (by omega)]
      refine ⟨v1, v2, v3, fun c hc => ?_⟩
      have hc5 : c < 5 := by omega
      rw [k1 (27 + 8 + c) (by omega) (by omega), k1 (27 + 14 + c) (by omega) (by omega)]
      exact v4 c hc
    · by_cases z3 : a = 193
      · subst z3
        exact k2 j (by
          unfold keepH at z
          simp at z
          exact z)
      · have : a ≠ 9 + b := by
          intro z4
          unfold keepH at z
          simp only [Bool.or_eq_true, Bool.and_eq_true, decide_eq_true_eq] at z
          omega
        rw [k1 a z3 this]
    · rw [← q2]
      exact (fb_eq (by rw [k1 0 (by omega) (by omega)])).symm
  · intro a j z
    unfold bkc at z
    by_cases z3 : a = 193
    · subst z3
      simp at z
    · have : a ≠ 9 + b := by
        intro z4
        subst z4
        rw [if_neg (by omega), if_neg (by omega), if_neg (by omega)] at z
        simp only [Bool.or_eq_false_iff, Bool.and_eq_false_iff, decide_eq_false_iff_not] at z
        omega
      rw [k1 a z3 this]
theorem X0_begin_ok {a : Nat} {a1 a2 a3 a4 a5 a6 : Int} {M : Mem} {Q : Mem → Prop} (h : ∀ M' : Mem, M' a 0 = a1 → M' a 1 = a2 → M' a 2 = a3 → M' a 3 = a4 → M' a 4 = a5 → M' a 5 = a6 → M' a 6 = 0 → (∀ k j, ¬ (k = a ∧ j < 7) → M' k j = M k j) → Q M') : wp_X0_begin a a1 a2 a3 a4 a5 a6 M Q := by
  rintro M2 rfl M7 rfl M12 rfl M18 rfl M24 rfl M30 rfl M35 rfl
  refine h _ ?_ ?_ ?_ ?_ ?_ ?_ ?_ (fun k j hk => ?_)
  all_goals simp (disch := omega) only [st2_h, st2_n]
theorem step_5 {DK : Mem → Prop} : Step_5 (Inv DK) := by
  intro M hI a1 a2 a3 a4 a5 a6 h1 h2 h3 h4 h5 h6
  obtain ⟨n1, n2⟩ := Inv_n hI
  obtain ⟨hB, hK, hR, hIm, hS, hN, hC⟩ := id hI
  have bad : ¬ ((0 ≤ a1 ∧ a1 ≤ 5) ∧ (1 ≤ a2 ∧ a2 ≤ 99) ∧ (0 ≤ a3 ∧ a3 ≤ 9) ∧ (1 ≤ a4 ∧ a4 ≤ 30) ∧ (1 ≤ a5 ∧ a5 ≤ 60) ∧ (1 ≤ a6 ∧ a6 ≤ 60)) → wp_X12_bond 189 a1 a2 a3 a4 a5 a6 M (fun r2 M2 => w32 (-2) = w32 r2 ∧ Inv DK M2) := by
    intro e
    unfold wp_X12_bond wp_X12_isDay
    rw [X12_within_iff, wl_0, wl_5, w32_R h1]
    refine dcf (fun z1 => ?_) (fun _ => ⟨rfl, hI⟩)
    rw [X12_within_iff, wl_1, wl_99, w32_R h2]
    refine dcf (fun z2 => ?_) (fun _ => ⟨rfl, hI⟩)
    rw [X12_within_iff, wl_0, wl_9, w32_R h3]
    refine dcf (fun z3 => ?_) (fun _ => ⟨rfl, hI⟩)
    rw [X12_within_iff, wl_1, wl_30, w32_R h4]
    refine dcf (fun z4 => ?_) (fun _ => ⟨rfl, hI⟩)
    rw [X12_within_iff, wl_1, wl_60, w32_R h5]
    refine dcf (fun z5 => ?_) (fun _ => ⟨rfl, hI⟩)
    rw [X12_within_iff, wl_1, wl_60, w32_R h6]
    exact dct (fun z6 => absurd ⟨z1, z2, z3, z4, z5, z6⟩ e) (fun _ => ⟨rfl, hI⟩)
  unfold wp_X11_bond wp_X11_isKind wp_X11_isDay
  rw [X11_within_iff, wl_0, wl_5, w32_R h1]
  refine dcf (fun z1 => ?_) (fun e => bad (fun z => e z.1))
  rw [X11_within_iff, wl_1, wl_99, w32_R h2]
  refine dcf (fun z2 => ?_) (fun e => bad (fun z => e z.2.1))
  rw [X11_within_iff, wl_0, wl_9, w32_R h3]
  refine dcf (fun z3 => ?_) (fun e => bad (fun z => e z.2.2.1))
  rw [X11_within_iff, wl_1, wl_30, w32_R h4]
  refine dcf (fun z4 => ?_) (fun e => bad (fun z => e z.2.2.2.1))
  rw [X11_within_iff, wl_1, wl_60, w32_R h5]
  refine dcf (fun z5 => ?_) (fun e => bad (fun z => e z.2.2.2.2.1))
  rw [X11_within_iff, wl_1, wl_60, w32_R h6]
  refine dct (fun z6 => ?_) (fun e => bad (fun z => e z.2.2.2.2.2))
  obtain ⟨n, hn⟩ : ∃ n : Nat, M 189 3 = (n : Int) := ⟨(M 189 3).toNat, by omega⟩
  have good : ∀ (M1 : Mem) (P : Int → Mem → Prop), (∀ j, M1 189 j = M 189 j) →
      (n = 5 → P (-4) M1) →
      (n < 5 → ∀ M2 : Mem, M2 193 (0 + n) = a1 → M2 193 (5 + n) = a2 → M2 193 (10 + n) = a3 → M2 193 (15 + n) = a4 → M2 193 (20 + n) = a5 → M2 193 (25 + n) = a6 → M2 193 (30 + n) = 0 → M2 189 3 = (n : Int) + 1 → (∀ j, j ≠ n → j ≠ 5 + n → j ≠ 10 + n → j ≠ 15 + n → j ≠ 20 + n → j ≠ 25 + n → j ≠ 30 + n → M2 193 j = M1 193 j) → (∀ k j, k ≠ 193 → ¬ (k = 189 ∧ j = 3) → M2 k j = M1 k j) → P (n : Int) M2) →
      wp_X12_bond 189 a1 a2 a3 a4 a5 a6 M1 P := by
    intro M1 P e9 c1 c2
    unfold wp_X12_bond wp_X12_isDay
    rw [X12_within_iff, wl_0, wl_5, w32_R h1]
    refine dcf (fun _ => ?_) (fun e => absurd z1 e)
    rw [X12_within_iff, wl_1, wl_99, w32_R h2]
    refine dcf (fun _ => ?_) (fun e => absurd z2 e)
    rw [X12_within_iff, wl_0, wl_9, w32_R h3]
    refine dcf (fun _ => ?_) (fun e => absurd z3 e)
    rw [X12_within_iff, wl_1, wl_30, w32_R h4]
    refine dcf (fun _ => ?_) (fun e => absurd z4 e)
    rw [X12_within_iff, wl_1, wl_60, w32_R h5]
    refine dcf (fun _ => ?_) (fun e => absurd z5 e)
    rw [X12_within_iff, wl_1, wl_60, w32_R h6]
    refine dct (fun _ => ?_) (fun e => absurd z6 e)
    have en : M1 189 3 = (n : Int) := (e9 3).trans hn
    rw [rtv_189_4, en, w32n (show n < 2147483648 by omega)]
    refine ⟨fun u => ?_, fun u => c1 (by omega)⟩
    refine ⟨inbn LN_193 (by omega), ?_⟩
    rw [ixn (show n < 2147483648 by omega)]
    rintro M79 rfl
    rw [st2_off _ _ (show 189 ≠ 193 by decide), en, show (5 : Int) + (n : Int) = ((5 + n : Nat) : Int) by omega, ixn (show 5 + n < 2147483648 by omega)]
    refine ⟨inbn LN_193 (by omega), ?_⟩
    rintro M91 rfl
    rw [st2_off _ _ (show 189 ≠ 193 by decide), st2_off _ _ (show 189 ≠ 193 by decide), en, show (10 : Int) + (n : Int) = ((10 + n : Nat) : Int) by omega, ixn (show 10 + n < 2147483648 by omega)]
    refine ⟨inbn LN_193 (by omega), ?_⟩
    rintro M104 rfl
    rw [st2_off _ _ (show 189 ≠ 193 by decide), st2_off _ _ (show 189 ≠ 193 by decide), st2_off _ _ (show 189 ≠ 193 by decide), en, show (15 : Int) + (n : Int) = ((15 + n : Nat) : Int) by omega, ixn (show 15 + n < 2147483648 by omega)]
    refine ⟨inbn LN_193 (by omega), ?_⟩
    rintro M118 rfl
    rw [st2_off _ _ (show 189 ≠ 193 by decide), st2_off _ _ (show 189 ≠ 193 by decide), st2_off _ _ (show 189 ≠ 193 by decide), st2_off _ _ (show 189 ≠ 193 by decide), en, show (20 : Int) + (n : Int) = ((20 + n : Nat) : Int) by omega, ixn (show 20 + n < 2147483648 by omega)]
    refine ⟨inbn LN_193 (by omega), ?_⟩
    rintro M132 rfl
    rw [st2_off _ _ (show 189 ≠ 193 by decide), st2_off _ _ (show 189 ≠ 193 by decide), st2_off _ _ (show 189 ≠ 193 by decide), st2_off _ _ (show 189 ≠ 193 by decide), st2_off _ _ (show 189 ≠ 193 by decide), en, show (25 : Int) + (n : Int) = ((25 + n : Nat) : Int) by omega, ixn (show 25 + n < 2147483648 by omega)]
    refine ⟨inbn LN_193 (by omega), ?_⟩
    rintro M146 rfl
    rw [st2_off _ _ (show 189 ≠ 193 by decide), st2_off _ _ (show 189 ≠ 193 by decide), st2_off _ _ (show 189 ≠ 193 by decide), st2_off _ _ (show 189 ≠ 193 by decide), st2_off _ _ (show 189 ≠ 193 by decide), st2_off _ _ (show 189 ≠ 193 by decide), en, show (30 : Int) + (n : Int) = ((30 + n : Nat) : Int) by omega, ixn (show 30 + n < 2147483648 by omega)]
    refine ⟨inbn LN_193 (by omega), ?_⟩
    rintro M159 rfl
    rintro M168 rfl
    rw [st2_off _ _ (show 189 ≠ 193 by decide), st2_off _ _ (show 189 ≠ 193 by decide), st2_off _ _ (show 189 ≠ 193 by decide), st2_off _ _ (show 189 ≠ 193 by decide), st2_off _ _ (show 189 ≠ 193 by decide), st2_off _ _ (show 189 ≠ 193 by decide), st2_off _ _ (show 189 ≠ 193 by decide), en]
    refine c2 (by omega) _ ?_ ?_ ?_ ?_ ?_ ?_ ?_ ?_ (fun j j1 j2 j3 j4 j5 j6 j7 => ?_) (fun k j hk hk2 => ?_)
    all_goals simp (disch := omega) only [st2_h, st2_n]
  rw [rtv_0_0, n1, hn, w32n (show n < 2147483648 by omega)]
  refine ⟨fun u => ?_, fun u => good M _ (fun _ => rfl) (fun _ => ⟨rfl, hI⟩) (fun q => absurd q (by omega))⟩
  have hn5 : n < 5 := by omega
  rintro M76 rfl
  rw [st2_off _ _ (show 1 ≠ 0 by decide), n1, hn, rtv_1_3, ixn (show n < 2147483648 by omega), rt_8 n hn5]
  refine ⟨inbn LN_8 hn5, X0_begin_ok (fun M7 f0 f1 f2 f3 f4 f5 f6 f7 => ?_)⟩
  rintro M118 rfl
  have e5 : ∀ k j, k ≠ 9 + n → ¬ (k = 1 ∧ j = 4) → ¬ (k = 0 ∧ j = 5) → st2 M7 1 4 ((n : Int) + 1) k j = M k j := fun k j k1 k2 k3 => by
    rw [st2_n _ _ k2, f7 k j (by omega), st2_n _ _ k3]
  refine good _ _ (fun j => e5 189 j (by omega) (by omega) (by omega)) (fun q => absurd q (by omega)) ?_
  intro _ M2 g0 g1 g2 g3 g4 g5 g6 g7 g8 g9
  have k1 : ∀ k j, k ≠ 9 + n → k ≠ 193 → ¬ (k = 189 ∧ j = 3) → ¬ (k = 1 ∧ j = 4) → ¬ (k = 0 ∧ j = 5) → M2 k j = M k j := fun k j z1 z2 z3 z4 z5 => by
    rw [g9 k j z2 z3, e5 k j z1 z4 z5]
  have row : ∀ k, k ≠ 0 → k ≠ 1 → k ≠ 189 → k ≠ 193 → k ≠ 9 + n → M2 k = M k := fun k z1 z2 z3 z4 z5 => funext fun j => k1 k j z5 z4 (by omega) (by omega) (by omega)
  have b14 : M2 1 4 = (n : Int) + 1 := by rw [g9 1 4 (by decide) (by decide), st2_s]
  refine ⟨rfl, Inv_told hI ?_ ?_ ?_ ?_⟩
  · unfold InvB at *
    rw [row 3 (by omega) (by omega) (by omega) (by omega) (by omega), row 5 (by omega) (by omega) (by omega) (by omega) (by omega), row 7 (by omega) (by omega) (by omega) (by omega) (by omega), row 190 (by omega) (by omega) (by omega) (by omega) (by omega), row 191 (by omega) (by omega) (by omega) (by omega) (by omega), row 192 (by omega) (by omega) (by omega) (by omega) (by omega), b14, g7]
    obtain ⟨p1, p2, p3, p4, p5, p6, p7, p8, p9⟩ := hB
    refine ⟨p1, p2, p3, p4, p5, rfl, by omega, by omega, fun c hc => ?_⟩
    by_cases q : c = n
    · subst q
      rw [Nat.zero_add] at g0
      rw [g0, g1, g2, g3, g4, g5, g6]
      refine ⟨fun w hw => ?_, z1, z2, z3, z4, z5, z6, by omega⟩
      have er : ∀ w, M2 (9 + c) w = M7 (9 + c) w := fun w => by rw [g9 _ _ (by omega) (by omega), st2_n _ _ (by omega)]
      dsimp only
      rw [er]
      have cw : w = 0 ∨ w = 1 ∨ w = 2 ∨ w = 3 ∨ w = 4 ∨ w = 5 ∨ w = 6 := by omega
      rcases cw with rfl | rfl | rfl | rfl | rfl | rfl | rfl
      · rw [f0, show 5 * 0 + c = c by omega, g0]
      · rw [f1, show 5 * 1 + c = 5 + c by omega, g1]
      · rw [f2, show 5 * 2 + c = 10 + c by omega, g2]
      · rw [f3, show 5 * 3 + c = 15 + c by omega, g3]
      · rw [f4, show 5 * 4 + c = 20 + c by omega, g4]
      · rw [f5, show 5 * 5 + c = 25 + c by omega, g5]
      · rw [f6, show 5 * 6 + c = 30 + c by omega, g6]
    · have hcn : c < n := by omega
      obtain ⟨w1, w2, w3, w4, w5, w6, w7, w8⟩ := p9 c (by omega)
      have ot : ∀ w, w < 7 → M2 193 (5 * w + c) = M 193 (5 * w + c) := fun w hw => by
        rw [g8 _ (by omega) (by omega) (by omega) (by omega) (by omega) (by omega) (by omega), e5 _ _ (by omega) (by omega) (by omega)]
      have o0 := ot 0 (by omega)
      have o1 := ot 1 (by omega)
      have o2 := ot 2 (by omega)
      have o3 := ot 3 (by omega)
      have o4 := ot 4 (by omega)
      have o5 := ot 5 (by omega)
      have o6 := ot 6 (by omega)
      rw [show 5 * 0 + c = c by omega] at o0
      rw [show 5 * 1 + c = 5 + c by omega] at o1
      rw [show 5 * 2 + c = 10 + c by omega] at o2
      rw [show 5 * 3 + c = 15 + c by omega] at o3
      rw [show 5 * 4 + c = 20 + c by omega] at o4
      rw [show 5 * 5 + c = 25 + c by omega] at o5
      rw [show 5 * 6 + c = 30 + c by omega] at o6
      rw [o0, o1, o2, o3, o4, o5, o6]
      refine ⟨fun w hw => ?_, w2, w3, w4, w5, w6, w7, w8⟩
      have := w1 w hw
      dsimp only at this ⊢
      rw [ot w hw, k1 (9 + c) w (by omega) (by omega) (by omega) (by omega) (by omega)]
      exact this
  · rw [k1 189 5 (by omega) (by omega) (by omega) (by omega) (by omega), row 190 (by omega) (by omega) (by omega) (by omega) (by omega), row 194 (by omega) (by omega) (by omega) (by omega) (by omega)]
    exact ⟨hR.1, hR.2.1⟩
  · have : M2 0 5 = bz true := by rw [g9 0 5 (by decide) (by decide), st2_n _ _ (by decide), f7 0 5 (by omega), st2_s]
    unfold fb
    rw [this]
    rfl
  · intro a j z
    unfold bkc at z
    have z' : a ≠ 193 ∧ a ≠ 9 + n ∧ ¬ (a = 189 ∧ j = 3) ∧ ¬ (a = 1 ∧ j = 4) ∧ ¬ (a = 0 ∧ j = 5) := by
      refine ⟨fun q => ?_, fun q => ?_, fun q => ?_, fun q => ?_, fun q => ?_⟩
      · subst q; simp at z
      · subst q
        rw [if_neg (by omega), if_neg (by omega), if_neg (by omega)] at z
        simp only [Bool.or_eq_false_iff, Bool.and_eq_false_iff, decide_eq_false_iff_not] at z
        omega
      · obtain ⟨rfl, rfl⟩ := q; simp at z
      · obtain ⟨rfl, rfl⟩ := q; simp at z
      · obtain ⟨rfl, rfl⟩ := q; simp at z
    exact k1 a j z'.2.1 z'.1 z'.2.2.1 z'.2.2.2.1 z'.2.2.2.2
