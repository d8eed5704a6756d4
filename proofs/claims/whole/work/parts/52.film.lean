/-! a film; what was told -/
def cq : Nat → Int
  | 0 => 0
  | i + 1 => 7 * cq i / 4 + 8910001
theorem cq_range : ∀ i, i ≤ 5 → 0 ≤ cq i ∧ cq i ≤ 200000000 := by
  intro i hi
  have c : i = 0 ∨ i = 1 ∨ i = 2 ∨ i = 3 ∨ i = 4 ∨ i = 5 := by omega
  rcases c with rfl | rfl | rfl | rfl | rfl | rfl <;> decide
theorem hasS_small {rr pd du lm : F1} {N : Nat} (h : N ≤ 5 ∧ ∀ i, i < N → (0 ≤ rr i ∧ rr i ≤ 3) ∧ (0 ≤ pd i ∧ pd i ≤ 8910000) ∧ (0 ≤ du i ∧ du i ≤ 99) ∧ (-1 ≤ lm i ∧ lm i ≤ 99)) : ∀ i, i ≤ N → 0 ≤ hasS rr pd du lm N i ∧ hasS rr pd du lm N i ≤ cq i
  | 0, _ => by
    unfold hasS cq
    omega
  | i + 1, hi => by
    have ih := hasS_small h i (by omega)
    obtain ⟨h1, h2, h3, h4⟩ := h.2 i (by omega)
    have hb := cq_range i (by have := h.1; omega)
    have g := grwS_range ih.1 (r := rr i) ⟨h1.1, by omega⟩
    have g7 : 4 * grwS (hasS rr pd du lm N i) (rr i) ≤ 7 * hasS rr pd du lm N i := by
      have b : hasS rr pd du lm N i * (4 + rr i) ≤ hasS rr pd du lm N i * 7 := Int.mul_le_mul_of_nonneg_left (by omega) ih.1
      unfold grwS
      omega
    rw [hasS_succ]
    unfold mx0 restA
    have eb : cq (i + 1) = 7 * cq i / 4 + 8910001 := rfl
    rw [eb]
    by_cases q : grwS (hasS rr pd du lm N i) (rr i) + pd i - du i < 0
    · rw [if_pos q]
      by_cases q2 : limS N i (lm i) 0 = true
      · rw [if_pos q2]
        have := (of_decide_eq_true q2)
        omega
      · rw [if_neg q2]; omega
    · rw [if_neg q]
      by_cases q2 : limS N i (lm i) (grwS (hasS rr pd du lm N i) (rr i) + pd i - du i) = true
      · rw [if_pos q2]
        have := (of_decide_eq_true q2)
        omega
      · rw [if_neg q2]; omega
theorem noY_yR : yR noY := fun i _ => noY_r i
theorem hasB_small {d r l t hv : F1} {n : Int} (h : Rng d r l t n) (hh : ∀ b : Nat, (b : Int) < n → 0 ≤ hv b ∧ hv b ≤ 99) {i : Nat} (hi : i ≤ rungs d) : 0 ≤ hasB d r l t noY hv n i ∧ hasB d r l t noY hv n i ≤ 200000000 := by
  have hP := Rng_PlayOK h noY_yR hh
  have key := hasS_small (rr := rrS d r noY) (pd := PD d r t noY hv n) (du := duS d) (lm := lmS d l) (N := rungs d) ⟨h.2.1, fun c hc => ?_⟩ i hi
  · have hN := h.2.1
    have cr := cq_range i (Nat.le_trans hi hN)
    unfold hasB
    omega
  · obtain ⟨p1, p2, p3, p4⟩ := hP.2 c hc
    refine ⟨?_, pdH_range h noY_yR hh c, p3, p4⟩
    unfold rrS
    rw [rateByS_noY]
    exact rateS_range (fun k hk => ⟨(h.1 k hk).2.2.1, (h.1 k hk).2.2.2.1⟩) _ (dayS_ok hc).2.1
/-- the class's play by rates as they are, by what is held -/
theorem play_now {DK : Mem → Prop} {M : Mem} {Q : Mem → Prop} (hI : Inv DK M) (hS : SceneOK M 27 (M 190) (M 191) (M 192) (M 193) noY (M 189 3)) (h : ∀ M' : Mem, Played M' (M 190) (M 191) (M 192) (M 193) noY (heldF (M 193)) (M 189 3) → (∀ k j, k ≠ 71 → k ≠ 177 → k ≠ 178 → k ≠ 179 → M' k j = M k j) → Q M') : wp_X11_readHeld 0 M (fun M15 => wp_X6_play 177 27 71 M15 Q) := by
  obtain ⟨n1, n2⟩ := Inv_n hI
  have hg := Inv_Rng hI
  have hB := hI.1
  refine readHeld_ok (n := (M 189 3).toNat) (by rw [n1]; exact (Int.toNat_of_nonneg n2.1).symm) (by omega) (fun M2 r1 r2 r3 => ?_)
  have hS2 : SceneOK M2 27 (M 190) (M 191) (M 192) (M 193) noY (M 189 3) := by
    have row : ∀ k, k ≠ 71 → M2 k = M k := fun k hk => funext fun j => r3 k j hk
    unfold SceneOK at *
    obtain ⟨v1, v2, v3, v4⟩ := hS
    rw [row 27 (by decide), row (27 + 1) (by decide), row (27 + 2) (by decide), row (27 + 3) (by decide), row (27 + 4) (by decide), row (27 + 5) (by decide), row (27 + 6) (by decide), row (27 + 19) (by decide), row (27 + 20) (by decide)]
    refine ⟨v1, v2, v3, fun b hb => ?_⟩
    rw [row (27 + 8 + b) (by omega), row (27 + 14 + b) (by omega)]
    exact v4 b hb
  refine play_scene (hv := heldF (M 193)) (Or.inl rfl) hS2 hg noY_yR (fun b hb => ?_) (fun b hb hb5 => r2 b (by omega) hb5) (fun M3 p1 p2 p3 p4 p5 p6 p7 => h M3 ⟨p1, p2, p3, p4, p5, p6⟩ (fun k j b c d e => by rw [p7 k j c d e, r3 k j b]))
  rw [r1 b (by omega)]
  have t6 := (BookR_t hB hb).2.1 6 (by decide)
  rw [show 5 * 6 + b = 30 + b by omega] at t6
  exact ⟨t6, (BookR_t hB hb).2.2.2.2.2.2.2.2⟩
theorem step_24 {DK : Mem → Prop} (hD : KeptH DK) : Step_24 (Inv DK) := by
  intro M hI a1 h1
  unfold wp_X11_film wp_X11_isSheet
  rw [X11_within_iff, wl_0, wl_3, w32_R h1]
  refine dct (fun e => ?_) (fun e => ?_)
  case refine_2 =>
    dsimp only
    unfold wp_X12_film wp_X12_isSheet
    rw [X12_within_iff, wl_0, wl_3, w32_R h1]
    exact dct (fun z => absurd z e) (fun _ => ⟨rfl, hI⟩)
  obtain ⟨j, rfl⟩ : ∃ j : Nat, a1 = (j : Int) := ⟨a1.toNat, by omega⟩
  have hj : j < 4 := by omega
  refine look_ok' hI (fun M0 hI0 hS hf he => ?_)
  rw [rtv_0_16, rtv_0_3, rtv_0_8]
  refine play_now hI0 hS (fun M1 p1 p2 => ?_)
  have hg := Inv_Rng hI0
  have hhr := held_r hI0
  have hR0 := Inv_RefOK hI0
  have hN5 := hR0.2.1
  have h05 := hR0.2.2.1
  have hsm := fun i hi => hasB_small (i := i) hg hhr hi
  obtain ⟨H, hH⟩ : ∃ H : Nat → Int, H = fun i => hasB (M0 190) (M0 191) (M0 192) (M0 193) noY (heldF (M0 193)) (M0 189 3) i := ⟨_, rfl⟩
  have hHi : ∀ i, hasB (M0 190) (M0 191) (M0 192) (M0 193) noY (heldF (M0 193)) (M0 189 3) i = H i := fun i => by rw [hH]
  simp only [hHi] at hsm
  have pc : ∀ i, i < rungs (M0 190) → M1 178 i = H (i + 1) := fun i hi => (p1.2.2.2.2.2 i hi).1.trans (hHi (i + 1))
  have c27 : M1 27 0 = (rungs (M0 190) : Int) := (p2 27 0 (by decide) (by decide) (by decide) (by decide)).trans hS.1
  clear hH
  -- the reference
  have ref : ∀ M1 : Mem, (∀ k, 189 ≤ k → M1 k = M0 k) → RefOK M1 noY → ∀ P : Int → Mem → Prop, (∀ M2 : Mem, M2 209 j = 2 → M2 210 j = (rungs (M0 190) : Int) → (∀ i, i < 40 → M2 211 (40 * j + i) = if i < rungs (M0 190) then H (i + 1) else 0) → (∀ k c, ¬ (k = 209 ∧ c = j) → ¬ (k = 210 ∧ c = j) → ¬ (k = 211 ∧ 40 * j ≤ c ∧ c < 40 * j + 40) → k ≠ 206 → k ≠ 207 → ¬ (k = 189 ∧ 25 ≤ c ∧ c ≤ 27) → M2 k c = M1 k c) → P (rungs (M0 190) : Int) M2) → wp_X12_film 189 (j : Int) M1 P := by
    intro M1 e1 hR1 P hP
    unfold wp_X12_film wp_X12_isSheet
    rw [X12_within_iff, wl_0, wl_3, w32_R h1]
    refine dct (fun _ => plays_ok' hR1 (fun M2 q1 q2 => ?_)) (fun z => absurd e z)
    rw [e1 190 (by decide), e1 191 (by decide), e1 192 (by decide), e1 193 (by decide), e1 189 (by decide)] at q1
    have qc : ∀ i, i < rungs (M0 190) → M2 206 i = H (i + 1) := fun i hi => (q1.1 i hi).1.trans (hHi (i + 1))
    have q5 : M2 189 5 = (rungs (M0 190) : Int) := (q2 189 5 (by decide) (by decide) (by decide)).trans ((congrFun (e1 189 (by decide)) 5).trans h05)
    generalize rungs (M0 190) = N at *
    rw [rtv_189_31, rtv_189_32, ixn (show j < 2147483648 by omega)]
    refine ⟨inbn LN_209 hj, ?_⟩
    rintro M21 rfl
    refine ⟨inbn LN_210 hj, ?_⟩
    rw [st2_n _ _ (show ¬ (189 = 209 ∧ 5 = j) by omega), q5]
    rintro M31 rfl
    refine ⟨fun M' x2 => ∃ m : Nat, x2 = (m : Int) ∧ m ≤ 40 ∧ M' 209 j = 2 ∧ M' 210 j = (N : Int) ∧ (∀ i, i < m → M' 211 (40 * j + i) = if i < N then H (i + 1) else 0) ∧ (∀ k c, ¬ (k = 209 ∧ c = j) → ¬ (k = 210 ∧ c = j) → ¬ (k = 211 ∧ 40 * j ≤ c ∧ c < 40 * j + 40) → M' k c = M2 k c), fun _ x2 => (40 - x2).toNat, ⟨0, rfl, by omega, ?_, st2_s _ _ _ _, fun i hi => by omega, fun k c a b _ => by rw [st2_n _ _ b, st2_n _ _ a]⟩, ?_⟩
    · rw [st2_n _ _ (by omega), st2_s]
    rintro M3 x2 ⟨m, rfl, hm, g1, g2, g3, g4⟩
    unfold wp_X12_film_B34 wp_X12_film_b69
    dsimp only
    rw [wl_40, w32n (show m < 2147483648 by omega), g4 189 5 (by omega) (by omega) (by omega), q5, w32n (show N < 2147483648 by omega)]
    refine ⟨fun u => ?_, fun u => ?_⟩
    · have : m = 40 := by omega
      subst this
      exact hP M3 g1 g2 g3 (fun k c a b d e f g => (g4 k c a b d).trans (q2 k c e f g))
    have nxt : ∀ z : Int, z = (if m < N then H (m + 1) else 0) → ∀ M69 : Mem, M69 = st2 M3 211 (40 * j + m) z → (∃ m' : Nat, (m : Int) + 1 = (m' : Int) ∧ m' ≤ 40 ∧ M69 209 j = 2 ∧ M69 210 j = (N : Int) ∧ (∀ i, i < m' → M69 211 (40 * j + i) = if i < N then H (i + 1) else 0) ∧ (∀ k c, ¬ (k = 209 ∧ c = j) → ¬ (k = 210 ∧ c = j) → ¬ (k = 211 ∧ 40 * j ≤ c ∧ c < 40 * j + 40) → M69 k c = M2 k c)) ∧ (40 - ((m : Int) + 1)).toNat < (40 - (m : Int)).toNat := by
      rintro z hz M69 rfl
      refine ⟨⟨m + 1, by omega, by omega, ?_, ?_, fun i hi => ?_, fun k c a b d => ?_⟩, by omega⟩
      · rw [st2_n _ _ (by omega)]; exact g1
      · rw [st2_n _ _ (by omega)]; exact g2
      · by_cases q : i = m
        · subst q; rw [st2_s]; exact hz
        · rw [st2_n _ _ (by omega)]; exact g3 i (by omega)
      · rw [st2_n _ _ (by omega)]; exact g4 k c a b d
    rw [rtv_189_33, rtv_189_23, show (40 : Int) * (j : Int) + (m : Int) = ((40 * j + m : Nat) : Int) by omega, ixn (show 40 * j + m < 2147483648 by omega), ixn (show m < 2147483648 by omega)]
    refine ⟨fun u2 => ⟨inbn LN_211 (by omega), fun M69 h => nxt _ ?_ M69 h⟩, fun u2 => ⟨inbn LN_206 (by omega), inbn LN_211 (by omega), fun M69 h => nxt _ ?_ M69 h⟩⟩
    · rw [if_neg (by omega)]
    · rw [if_pos (by omega), g4 206 m (by omega) (by omega) (by omega), qc m (by omega)]
  rw [rtv_0_17, ixn (show j < 2147483648 by omega), rt_180 j hj, c27]
  refine ⟨inbn LN_180 hj, X9_begin_ok hj (fun M2 b1 b2 b3 b4 => ?_)⟩
  generalize hN : rungs (M0 190) = N at *
  refine ⟨fun M' x2 => ∃ m : Nat, x2 = (m : Int) ∧ m ≤ N ∧ (∀ i, i < 40 → M' (182 + 2 * j) i = if i < m then H (i + 1) else 0) ∧ (∀ k c, k ≠ 182 + 2 * j → M' k c = M2 k c), fun _ x2 => ((N : Int) - x2).toNat, ⟨0, rfl, Nat.zero_le _, fun i hi => by rw [if_neg (by omega)]; exact b3 i hi, fun _ _ _ => rfl⟩, ?_⟩
  rintro M3 x2 ⟨m, rfl, hm, g1, g2⟩
  unfold wp_X11_film_B52
  dsimp only
  have r2 : ∀ k c, k ≠ 181 + 2 * j → k ≠ 182 + 2 * j → M3 k c = M1 k c := fun k c a b => (g2 k c b).trans (b4 k c a b)
  rw [rtv_0_3, rtv_0_16, rtv_0_17, r2 27 0 (by omega) (by omega), c27, w32n (show N < 2147483648 by omega), w32n (show m < 2147483648 by omega), ixn (show m < 2147483648 by omega), ixn (show j < 2147483648 by omega), rt_180 j hj, rt_sheet j hj, rtv_177_c]
  refine ⟨fun u => ?_, fun u => ⟨inbn LN_180 hj, inbn LN_178 (by omega), inbn (LN_sheet hj) (by omega), ?_⟩⟩
  · have : m = N := by omega
    subst this
    have row3 : ∀ k, 189 ≤ k → M3 k = M0 k := fun k hk => funext fun c => (r2 k c (by omega) (by omega)).trans (p2 k c (by omega) (by omega) (by omega) (by omega))
    have h3 : RefOK M3 noY := RefOK_same hR0 (row3 190 (by decide)) (row3 191 (by decide)) (row3 192 (by decide)) (row3 193 (by decide)) (row3 194 (by decide)) (row3 195 (by decide)) (congrFun (row3 189 (by decide)) 3) (congrFun (row3 189 (by decide)) 5)
    apply ref M3 row3 h3
    intro M4 k1 k2 k3 k4
    refine And.intro (w32n (show m < 2147483648 by omega)).symm ?_
    have hFc : FrC M0 M1 := fun k c a b d e f g => p2 k c d e f g
    have hI1 := Inv_FrC hD hI0 hFc
    -- through a memory that differs from the last in the reference's scratch alone
    have m3 : ∀ c, M4 (181 + 2 * j) c = M3 (181 + 2 * j) c ∧ M4 (182 + 2 * j) c = M3 (182 + 2 * j) c := fun c => ⟨k4 _ _ (by omega) (by omega) (by omega) (by omega) (by omega) (by omega), k4 _ _ (by omega) (by omega) (by omega) (by omega) (by omega) (by omega)⟩
    obtain ⟨M5, hM5⟩ : ∃ M5 : Mem, M5 = fun k c => if k = 206 ∨ k = 207 ∨ (k = 189 ∧ 25 ≤ c ∧ c ≤ 27) then M1 k c else M4 k c := ⟨_, rfl⟩
    have o5 : ∀ k c, ¬ (k = 206 ∨ k = 207 ∨ (k = 189 ∧ 25 ≤ c ∧ c ≤ 27)) → M5 k c = M4 k c := fun k c h => by rw [hM5]; exact if_neg h
    have hI5 : Inv DK M5 := by
      refine Inv_sheet1 hD hI1 hj ?_ ?_ ?_ ?_ ?_ (fun i hi => ?_) (fun k c a b d e f => ?_)
      · rw [o5 _ _ (by omega), o5 _ _ (by omega), (m3 1).1, g2 _ _ (by omega), b1, k1]; rfl
      · rw [o5 _ _ (by omega), k1]; decide
      · rw [o5 _ _ (by omega), o5 _ _ (by omega), (m3 2).1, g2 _ _ (by omega), b2, k2]
      · rw [o5 _ _ (by omega), k2]; omega
      · rw [o5 _ _ (by omega), o5 _ _ (by omega), k1]; intro q; exact absurd q (by decide)
      · rw [o5 _ _ (by omega), o5 _ _ (by omega), (m3 i).2, g1 i hi, k3 i hi]
        refine ⟨rfl, ?_⟩
        by_cases q : i < m
        · rw [if_pos q]
          have := hsm (i + 1) (by omega)
          exact ⟨by omega, by omega⟩
        · rw [if_neg q]; exact R32_i (by decide) (by decide)
      · by_cases q : k = 206 ∨ k = 207 ∨ (k = 189 ∧ 25 ≤ c ∧ c ≤ 27)
        · rw [hM5]; exact if_pos q
        · rw [o5 k c q, k4 k c d e f (by omega) (by omega) (by omega), r2 k c a b]
    refine Inv_FrP hD hI5 (fun k c a b d => ?_)
    rw [o5 k c (by omega)]
  · rintro M83 rfl
    refine ⟨⟨m + 1, by omega, by omega, fun i hi => ?_, fun k c hk => ?_⟩, by omega⟩
    · by_cases q : i = m
      · subst q; rw [st2_s, if_pos (by omega), r2 178 i (by omega) (by omega), pc i (by omega)]
      · rw [st2_n _ _ (by omega), g1 i hi]
        by_cases q2 : i < m
        · rw [if_pos q2, if_pos (by omega)]
        · rw [if_neg q2, if_neg (by omega)]
    · rw [st2_off _ _ hk]; exact g2 k c hk
