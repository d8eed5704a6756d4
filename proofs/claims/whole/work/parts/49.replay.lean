/-! replays -/
def PD (d r t y hv : F1) (n : Int) : F1 := pdH hv d t (rateByS d r y) n.toNat
def hasB (d r l t y hv : F1) (n : Int) (i : Nat) : Int := hasS (rrS d r y) (PD d r t y hv n) (duS d) (lmS d l) (rungs d) i
def shB (d r l t y hv : F1) (n : Int) (i : Nat) : Int := shortA (rrS d r y) (PD d r t y hv n) (duS d) (lmS d l) (rungs d) i
def allSh (d r l t y hv : F1) (n : Int) : Int := sumN (shortA (rrS d r y) (PD d r t y hv n) (duS d) (lmS d l) (rungs d)) (rungs d)
def allSp (d r l t y hv : F1) (n : Int) : Int := sumN (spiltA (rrS d r y) (PD d r t y hv n) (duS d) (lmS d l) (rungs d)) (rungs d)
def allGr (d r l t y hv : F1) (n : Int) : Int := sumN (grewA (rrS d r y) (PD d r t y hv n) (duS d) (lmS d l) (rungs d)) (rungs d)
def allPa (d r t y hv : F1) (n : Int) : Int := sumN (PD d r t y hv n) (rungs d)
def Played (M' : Mem) (d r l t y hv : F1) (n : Int) : Prop := M' 177 6 = (rungs d : Int) ∧ M' 177 1 = allSh d r l t y hv n ∧ M' 177 3 = allSp d r l t y hv n ∧ M' 177 4 = allGr d r l t y hv n ∧ M' 177 5 = allPa d r t y hv n ∧ ∀ i, i < rungs d → M' 178 i = hasB d r l t y hv n (i + 1) ∧ M' 179 i = shB d r l t y hv n i
def RPlayed (M' : Mem) (d r l t y hv : F1) (n : Int) : Prop := (∀ i, i < rungs d → M' 206 i = hasB d r l t y hv n (i + 1) ∧ M' 207 i = shB d r l t y hv n i) ∧ M' 189 25 = allSp d r l t y hv n ∧ M' 189 26 = allGr d r l t y hv n ∧ M' 189 27 = allPa d r t y hv n
theorem plays_ok' {M : Mem} {y : F1} (hR : RefOK M y) {Q : Int → Mem → Prop} (h : ∀ M' : Mem, RPlayed M' (M 190) (M 191) (M 192) (M 193) y (heldF (M 193)) (M 189 3) → FrP M M' → Q (allSh (M 190) (M 191) (M 192) (M 193) y (heldF (M 193)) (M 189 3)) M') : wp_X12_plays 189 M Q :=
  plays_ok hR fun M' h1 h2 h3 h4 h5 => h M' ⟨h1, h2, h3, h4⟩ h5
theorem playBy_ok {DK : Mem → Prop} {M : Mem} {Q : Mem → Prop} {y : F1} (hI : Inv DK M) (hY : ∀ i, i < 5 → M 70 i = y i ∧ -1 ≤ y i ∧ y i ≤ 9) (h : ∀ M' : Mem, Played M' (M 190) (M 191) (M 192) (M 193) y (heldF (M 193)) (M 189 3) → (∀ k j, ¬ (48 ≤ k ∧ k ≤ 68) → k ≠ 71 → k ≠ 177 → k ≠ 178 → k ≠ 179 → M' k j = M k j) → Q M') : wp_X11_playBy 0 70 M Q := by
  obtain ⟨n1, n2⟩ := Inv_n hI
  have hg := Inv_Rng hI
  have hB := hI.1
  unfold wp_X11_playBy
  rw [rtv_0_4, rtv_0_0, rtv_0_16, rtv_0_8]
  refine lay_ok (s := 48) (yc := 70) (y := y) (Or.inr rfl) (Or.inr rfl) hB hY (fun M1 s1 s2 => ?_)
  refine readHeld_ok (n := (M 189 3).toNat) (by rw [s2 1 4 (by omega), n1]; exact (Int.toNat_of_nonneg n2.1).symm) (by omega) (fun M2 r1 r2 r3 => ?_)
  have hS2 : SceneOK M2 48 (M 190) (M 191) (M 192) (M 193) y (M 189 3) := by
    have row : ∀ k, k ≠ 71 → M2 k = M1 k := fun k hk => funext fun j => r3 k j hk
    unfold SceneOK at *
    obtain ⟨v1, v2, v3, v4⟩ := s1
    rw [row 48 (by decide), row (48 + 1) (by decide), row (48 + 2) (by decide), row (48 + 3) (by decide), row (48 + 4) (by decide), row (48 + 5) (by decide), row (48 + 6) (by decide), row (48 + 19) (by decide), row (48 + 20) (by decide)]
    refine ⟨v1, v2, v3, fun b hb => ?_⟩
    rw [row (48 + 8 + b) (by omega), row (48 + 14 + b) (by omega)]
    exact v4 b hb
  refine play_scene (hv := heldF (M 193)) (Or.inr rfl) hS2 hg (fun i hi => (hY i hi).2) (fun b hb => ?_) (fun b hb hb5 => r2 b (by omega) hb5) (fun M3 p1 p2 p3 p4 p5 p6 p7 => h M3 ⟨p1, p2, p3, p4, p5, p6⟩ (fun k j a b c d e => by rw [p7 k j c d e, r3 k j b, s2 k j (by omega)]))
  rw [r1 b (by omega), s2 _ _ (by omega)]
  have hb5 : b < 5 := by omega
  have t6 := (BookR_t hB hb).2.1 6 (by decide)
  rw [show 5 * 6 + b = 30 + b by omega] at t6
  exact ⟨t6, (BookR_t hB hb).2.2.2.2.2.2.2.2⟩
theorem keepF_play {k j : Nat} (h : keep k j = true) : ¬ (48 ≤ k ∧ k ≤ 68) ∧ k ≠ 70 ∧ k ≠ 71 ∧ k ≠ 177 ∧ k ≠ 178 ∧ k ≠ 179 ∧ k ≠ 206 ∧ k ≠ 207 ∧ ¬ (k = 189 ∧ 25 ≤ j ∧ j ≤ 27) := by
  unfold keep at h
  by_cases h0 : k < 48
  · omega
  · rw [if_neg h0] at h
    by_cases h1 : k = 69
    · omega
    · rw [if_neg h1] at h
      by_cases h2 : k < 87
      · rw [if_pos h2] at h; cases h
      · rw [if_neg h2] at h
        by_cases h3 : k < 98
        · omega
        · rw [if_neg h3] at h
          by_cases h4 : k < 102
          · omega
          · rw [if_neg h4] at h
            by_cases h5 : k < 174
            · omega
            · rw [if_neg h5] at h
              by_cases h6 : k < 181
              · rw [if_pos h6] at h; cases h
              · rw [if_neg h6] at h
                by_cases h7 : k < 189
                · omega
                · rw [if_neg h7] at h
                  by_cases h8 : k = 189
                  · rw [if_pos h8] at h
                    simp only [Bool.or_eq_true, decide_eq_true_eq] at h
                    omega
                  · rw [if_neg h8] at h
                    by_cases h9 : k < 196
                    · omega
                    · rw [if_neg h9] at h
                      have := of_decide_eq_true h
                      omega
theorem Inv_FrP {DK : Mem → Prop} (hD : KeptH DK) {M M2 : Mem} (hI : Inv DK M) (h : FrP M M2) : Inv DK M2 :=
  Inv_same (KeptH_Kept hD) (fun k j q => h k j (keepF_play q).2.2.2.2.2.2.1 (keepF_play q).2.2.2.2.2.2.2.1 (keepF_play q).2.2.2.2.2.2.2.2) hI
theorem clears_ok {M : Mem} {Q : Mem → Prop} (h : ∀ M' : Mem, (∀ i, i < 5 → M' 195 i = -1) → (∀ k j, ¬ (k = 195 ∧ j < 5) → M' k j = M k j) → Q M') : wp_X12_clears 189 M Q := by
  refine ⟨fun M' x1 => ∃ m : Nat, x1 = (m : Int) ∧ m ≤ 5 ∧ (∀ i, i < m → M' 195 i = -1) ∧ (∀ k j, ¬ (k = 195 ∧ j < 5) → M' k j = M k j), fun _ x1 => (5 - x1).toNat, ⟨0, rfl, by omega, fun i hi => by omega, fun _ _ _ => rfl⟩, ?_⟩
  rintro M1 x1 ⟨m, rfl, hm, f1, f2⟩
  unfold wp_X12_clears_B2
  dsimp only
  rw [wl_5, w32n (show m < 2147483648 by omega), rtv_189_7, ixn (show m < 2147483648 by omega)]
  refine ⟨fun u => ?_, fun u => ⟨inbn LN_195 (by omega), ?_⟩⟩
  · have : m = 5 := by omega
    subst this
    exact h M1 f1 f2
  · rintro M13 rfl
    refine ⟨⟨m + 1, by omega, by omega, fun i hi => ?_, fun k j hk => ?_⟩, by omega⟩
    · by_cases q : i = m
      · subst q; exact st2_s _ _ _ _
      · rw [st2_n _ _ (by omega)]; exact f1 i (by omega)
    · rw [st2_n _ _ (by omega)]; exact f2 k j hk
def okS (a1 : Int) : Prop := a1 = -1 ∨ (0 ≤ a1 ∧ a1 ≤ 3)
def okW (a2 : Int) : Prop := (0 ≤ a2 ∧ a2 ≤ 4) ∨ (10 ≤ a2 ∧ a2 ≤ 14) ∨ (20 ≤ a2 ∧ a2 ≤ 23)
def badR (M : Mem) (j : Nat) : Prop := 5 < M 210 j ∨ ∃ i : Nat, (i : Int) < M 210 j ∧ ¬ (0 ≤ M 211 (40 * j + i) ∧ M 211 (40 * j + i) ≤ 9)
def goodS (M : Mem) (a1 : Int) : Prop := a1 = -1 ∨ ∃ j : Nat, a1 = (j : Int) ∧ j < 4 ∧ M 209 j ≠ 0 ∧ ¬ badR M j
def yOf (M : Mem) (a1 : Int) : F1 := fun i => if a1 = -1 then -1 else if (i : Int) < M 210 a1.toNat then M 211 (40 * a1.toNat + i) else -1
def valV (d r l t y hv : F1) (n : Int) (a2 : Int) : Int := if a2 < 5 then hasB d r l t y hv n (a2.toNat + 1) else if a2 < 20 then shB d r l t y hv n (a2 - 10).toNat else if a2 = 20 then allSh d r l t y hv n else if a2 = 21 then allSp d r l t y hv n else if a2 = 22 then allGr d r l t y hv n else allPa d r t y hv n
theorem yOf_r {M : Mem} {a1 : Int} (h : goodS M a1) : yR (yOf M a1) := by
  intro i hi
  unfold yOf
  rcases h with rfl | ⟨j, rfl, hj, h1, h2⟩
  · rw [if_pos rfl]; omega
  · rw [if_neg (by omega), show ((j : Int)).toNat = j by omega]
    by_cases q : (i : Int) < M 210 j
    · rw [if_pos q]
      have : 0 ≤ M 211 (40 * j + i) ∧ M 211 (40 * j + i) ≤ 9 := by
        by_cases z : 0 ≤ M 211 (40 * j + i) ∧ M 211 (40 * j + i) ≤ 9
        · exact z
        · exact absurd (Or.inr ⟨i, q, z⟩) h2
      omega
    · rw [if_neg q]; omega
theorem X12_replay_ok {DK : Mem → Prop} {M : Mem} (hI : Inv DK M) {a1 a2 : Int} (h1 : R32 a1) (h2 : R32 a2) {P : Int → Mem → Prop}
    (c1 : ¬ (okS a1 ∧ okW a2) → P (-2) M)
    (c2 : ∀ j : Nat, a1 = (j : Int) → j < 4 → okW a2 → M 209 j = 0 → P (-11) M)
    (c3 : ∀ j : Nat, a1 = (j : Int) → j < 4 → okW a2 → M 209 j ≠ 0 → badR M j → P (-2) M)
    (c4 : okW a2 → goodS M a1 → a2 < 20 → ¬ (0 ≤ a2 % 10 ∧ a2 % 10 < (rungs (M 190) : Int)) → P (-12) M)
    (c5 : okW a2 → goodS M a1 → (a2 < 20 → (0 ≤ a2 % 10 ∧ a2 % 10 < (rungs (M 190) : Int))) → ∀ M2 : Mem, FrP M M2 → P (valV (M 190) (M 191) (M 192) (M 193) (yOf M a1) (heldF (M 193)) (M 189 3) a2) M2) : wp_X12_replay 189 a1 a2 M P := by
  have hR := Inv_RefOK hI
  have hN5 := hR.2.1
  have hby := hI.2.2.1.2.2
  -- play and answer
  have b179 : okW a2 → goodS M a1 → (a2 < 20 → (0 ≤ a2 % 10 ∧ a2 % 10 < (rungs (M 190) : Int))) → ∀ M1 : Mem, (∀ k j, ¬ (k = 195 ∧ j < 5) → M1 k j = M k j) → (∀ i, i < 5 → M1 195 i = yOf M a1 i) → wp_X12_replay_b179 189 P M1 a2 := by
    intro w g pl M1 e1 e2
    have row : ∀ k, k ≠ 195 → M1 k = M k := fun k hk => funext fun j => e1 k j (fun z => hk z.1)
    have hR1 : RefOK M1 (yOf M a1) := by
      unfold RefOK at *
      rw [row 190 (by decide), row 191 (by decide), row 192 (by decide), row 193 (by decide), row 194 (by decide), row 189 (by decide)]
      exact ⟨hR.1, hR.2.1, hR.2.2.1, hR.2.2.2.1, fun i hi => ⟨e2 i hi, yOf_r g i hi⟩, hR.2.2.2.2.2⟩
    unfold wp_X12_replay_b179
    refine plays_ok' hR1 (fun M2 p1 p2 => clears_ok (fun M3 q1 q2 => ?_))
    rw [row 190 (by decide), row 191 (by decide), row 192 (by decide), row 193 (by decide), row 189 (by decide)] at p1 ⊢
    obtain ⟨p3, p4, p5, p6⟩ := p1
    have fr : FrP M M3 := fun k j z1 z2 z3 => by
      by_cases q : k = 195 ∧ j < 5
      · obtain ⟨rfl, hj⟩ := q
        rw [q1 j hj, hby j hj]
      · rw [q2 k j q, p2 k j z1 z2 z3, e1 k j q]
    have c5 := c5 w g pl M3 fr
    have o : ∀ k j, k ≠ 195 → M3 k j = M2 k j := fun k j hk => q2 k j (fun z => hk z.1)
    unfold valV at c5
    unfold okW at w
    rw [w32_R h2, wl_5, wl_20, wl_21, wl_22]
    refine ⟨fun u => ⟨fun u2 => ⟨fun u3 => ⟨fun u4 => ⟨fun u5 => ?_, fun u5 => ?_⟩, fun u4 => ?_⟩, fun u3 => ?_⟩, fun u2 => ?_⟩, fun u => ?_⟩
    · rw [if_neg (by omega), if_neg (by omega), if_neg u3, if_neg u4, if_neg u5] at c5
      rw [o 189 27 (by decide), p6]; exact c5
    · rw [if_neg (by omega), if_neg (by omega), if_neg u3, if_neg u4, if_pos (by omega)] at c5
      rw [o 189 26 (by decide), p5]; exact c5
    · rw [if_neg (by omega), if_neg (by omega), if_neg u3, if_pos (by omega)] at c5
      rw [o 189 25 (by decide), p4]; exact c5
    · rw [if_neg (by omega), if_neg (by omega), if_pos (by omega)] at c5
      exact c5
    · rw [if_neg (by omega), if_pos (by omega)] at c5
      obtain ⟨i, hi⟩ : ∃ i : Nat, a2 - 10 = (i : Int) := ⟨(a2 - 10).toNat, by omega⟩
      have pl := pl (by omega)
      rw [hi, rtv_189_24, ixn (show i < 2147483648 by omega), o 207 i (by decide), (p3 i (by omega)).2]
      rw [hi, show ((i : Int)).toNat = i by omega] at c5
      exact ⟨inbn LN_207 (by omega), c5⟩
    · rw [if_pos (by omega)] at c5
      obtain ⟨i, rfl⟩ : ∃ i : Nat, a2 = (i : Int) := ⟨a2.toNat, by omega⟩
      have pl := pl (by omega)
      rw [rtv_189_23, ixn (show i < 2147483648 by omega), o 206 i (by decide), (p3 i (by omega)).1]
      rw [show ((i : Int)).toNat = i by omega] at c5
      exact ⟨inbn LN_206 (by omega), c5⟩
  -- the rates come
  have b119 : okW a2 → goodS M a1 → wp_X12_replay_b119 189 P M a1 a2 := by
    intro w g
    have b139 : (a2 < 20 → (0 ≤ a2 % 10 ∧ a2 % 10 < (rungs (M 190) : Int))) → wp_X12_replay_b139 189 P M a1 a2 := by
      intro pl
      refine ⟨fun M' x3 => ∃ m : Nat, x3 = (m : Int) ∧ m ≤ 5 ∧ (∀ i, i < m → M' 195 i = yOf M a1 i) ∧ (∀ i, m ≤ i → i < 5 → M' 195 i = -1) ∧ (∀ k j, ¬ (k = 195 ∧ j < 5) → M' k j = M k j), fun _ x3 => (5 - x3).toNat, ⟨0, rfl, by omega, fun i hi => by omega, fun i _ hi => hby i hi, fun _ _ _ => rfl⟩, ?_⟩
      rintro M1 x3 ⟨m, rfl, hm, f1, f2, f3⟩
      unfold wp_X12_replay_B141
      dsimp only
      rw [wm_1, w32_R h1, w32n (show m < 2147483648 by omega)]
      refine ⟨fun u => b179 w g pl M1 f3 (fun i hi => ?_), fun u => ?_⟩
      · by_cases q : i < m
        · exact f1 i q
        · rw [f2 i (by omega) hi]
          unfold yOf
          rw [if_pos u]
      obtain ⟨j, rfl, hj, w1, w2⟩ : ∃ j : Nat, a1 = (j : Int) ∧ j < 4 ∧ M 209 j ≠ 0 ∧ ¬ badR M j := by
        rcases g with z | z
        · exact absurd z u
        · exact z
      obtain ⟨v1, v2, v3, v4, v5, v6, v7, v8⟩ := InvS_j hI hj
      have s5 : M 210 j ≤ 5 := by
        rcases Int.lt_or_le 5 (M 210 j) with z | z
        · exact absurd (Or.inl z) w2
        · exact z
      rw [rtv_189_32, ixn (show j < 2147483648 by omega), f3 210 j (by omega), w32_id (z := M 210 j) (by omega) (by omega)]
      have yj : ∀ i : Nat, yOf M (j : Int) i = if (i : Int) < M 210 j then M 211 (40 * j + i) else -1 := fun i => by
        unfold yOf
        rw [if_neg (by omega), show ((j : Int)).toNat = j by omega]
      refine ⟨inbn LN_210 hj, fun u2 => b179 w g pl M1 f3 (fun i hi => ?_), fun u2 => ?_⟩
      · by_cases q : i < m
        · exact f1 i q
        · rw [f2 i (by omega) hi, yj, if_neg (by omega)]
      rw [rtv_189_33, rtv_189_7, show (40 : Int) * (j : Int) + (m : Int) = ((40 * j + m : Nat) : Int) by omega, ixn (show 40 * j + m < 2147483648 by omega), ixn (show m < 2147483648 by omega), f3 211 _ (by omega)]
      refine ⟨inbn LN_211 (by omega), inbn LN_195 (by omega), ?_⟩
      rintro M172 rfl
      refine ⟨⟨m + 1, by omega, by omega, fun i hi => ?_, fun i hi hi2 => ?_, fun k c hk => ?_⟩, by omega⟩
      · by_cases q : i = m
        · subst q; rw [st2_s, yj, if_pos (by omega)]
        · rw [st2_n _ _ (by omega)]; exact f1 i (by omega)
      · rw [st2_n _ _ (by omega)]; exact f2 i (by omega) hi2
      · rw [st2_n _ _ (by omega)]; exact f3 k c hk
    unfold wp_X12_replay_b119
    rw [wl_20, wl_10, w32_R h2]
    refine ⟨fun u => b139 (fun z => by omega), fun u => ⟨by decide, ?_⟩⟩
    unfold okW at w
    have ht : a2.tmod 10 = a2 % 10 := Int.tmod_eq_emod_of_nonneg (by omega)
    rw [ht, isRung_iff hR.2.2.1 hN5 ⟨by omega, by omega⟩]
    exact dct (fun z => b139 (fun _ => z)) (fun z => c4 w g (by omega) z)
  -- the rates are tested
  have b46 : okW a2 → okS a1 → wp_X12_replay_b46 189 P M a1 a2 := by
    intro w s
    unfold wp_X12_replay_b46 wp_X12_replay_b63
    rw [wm_1, w32_R h1]
    have lp : (a1 ≠ -1 → ∃ j : Nat, a1 = (j : Int) ∧ j < 4 ∧ M 209 j ≠ 0) → wp_X12_replay_L65 189 P M a1 a2 0 := by
      intro hs
      refine ⟨fun x3 => ∃ m : Nat, x3 = (m : Int) ∧ m ≤ 5 ∧ (a1 ≠ -1 → 0 < m → M 210 a1.toNat ≤ 5) ∧ (a1 ≠ -1 → ∀ i : Nat, i < m → (i : Int) < M 210 a1.toNat → 0 ≤ M 211 (40 * a1.toNat + i) ∧ M 211 (40 * a1.toNat + i) ≤ 9), fun x3 => (5 - x3).toNat, ⟨0, rfl, by omega, fun _ z => by omega, fun _ i hi => by omega⟩, ?_⟩
      rintro x3 ⟨m, rfl, hm, f1, f2⟩
      unfold wp_X12_replay_B65
      dsimp only
      rw [wm_1, w32_R h1, w32n (show m < 2147483648 by omega)]
      refine ⟨fun u => b119 w (Or.inl u), fun u => ?_⟩
      obtain ⟨j, rfl, hj, w1⟩ := hs u
      have f1 := f1 u
      have f2 := f2 u
      rw [show ((j : Int)).toNat = j by omega] at f1 f2
      obtain ⟨v1, v2, v3, v4, v5, v6, v7, v8⟩ := InvS_j hI hj
      rw [rtv_189_32, ixn (show j < 2147483648 by omega), w32_id (z := M 210 j) (by omega) (by omega), wl_5]
      refine ⟨inbn LN_210 hj, fun u2 => b119 w (Or.inr ⟨j, rfl, hj, w1, ?_⟩), fun u2 => ⟨inbn LN_210 hj, fun u3 => c3 j rfl hj w w1 (Or.inl u3), fun u3 => ?_⟩⟩
      · rintro (z | ⟨i, z1, z2⟩)
        · rcases Nat.eq_zero_or_pos m with q | q
          · omega
          · have := f1 q; omega
        · exact z2 (f2 i (by omega) z1)
      rw [rtv_189_33, show (40 : Int) * (j : Int) + (m : Int) = ((40 * j + m : Nat) : Int) by omega, ixn (show 40 * j + m < 2147483648 by omega)]
      refine ⟨inbn LN_211 (by omega), ?_⟩
      rw [X12_within_iff, wl_0, wl_9, w32_R (v8 m (by omega)).2]
      refine dct (fun z => ⟨⟨m + 1, by omega, by omega, fun _ _ => by rw [show ((j : Int)).toNat = j by omega]; omega, fun _ i hi hi2 => ?_⟩, by omega⟩) (fun z => c3 j rfl hj w w1 (Or.inr ⟨m, by omega, z⟩))
      rw [show ((j : Int)).toNat = j by omega] at hi2 ⊢
      by_cases q : i = m
      · subst q; exact z
      · exact f2 i (by omega) hi2
    refine ⟨fun u => lp (fun z => absurd u z), fun u => ?_⟩
    obtain ⟨j, rfl⟩ : ∃ j : Nat, a1 = (j : Int) := ⟨a1.toNat, by unfold okS at s; omega⟩
    have hj : j < 4 := by unfold okS at s; omega
    obtain ⟨v1, v2, v3, v4, v5, v6, v7, v8⟩ := InvS_j hI hj
    rw [rtv_189_31, ixn (show j < 2147483648 by omega), w32_id (z := M 209 j) (by omega) (by omega)]
    exact ⟨inbn LN_209 hj, fun u2 => lp (fun _ => ⟨j, rfl, hj, u2⟩), fun u2 => c2 j rfl hj w (by omega)⟩
  have b12 : okS a1 → wp_X12_replay_b12 189 P M a1 a2 := by
    intro s
    unfold wp_X12_replay_b12
    rw [X12_within_iff, wl_0, wl_4, w32_R h2]
    refine dct (fun z => b46 (Or.inl z) s) (fun z => ?_)
    rw [X12_within_iff, wl_10, wl_14, w32_R h2]
    refine dct (fun z2 => b46 (Or.inr (Or.inl z2)) s) (fun z2 => ?_)
    rw [X12_within_iff, wl_20, wl_23, w32_R h2]
    exact dct (fun z3 => b46 (Or.inr (Or.inr z3)) s) (fun z3 => c1 (fun q => by unfold okW at q; omega))
  unfold wp_X12_replay wp_X12_isSheet
  rw [wm_1, w32_R h1]
  refine ⟨fun u => b12 (Or.inl u), fun u => ?_⟩
  rw [X12_within_iff, wl_0, wl_3, w32_R h1]
  exact dcf (fun z => b12 (Or.inr z)) (fun z => c1 (fun q => by unfold okS at q; omega))
