theorem step_23 {DK : Mem → Prop} (hD : KeptH DK) : Step_23 (Inv DK) := by
  intro M hI a1 a2 a3 h1 h2 h3
  obtain ⟨n1, n2⟩ := Inv_n hI
  -- the reference from a like state
  have ref : ∀ (r : Int) (M1 : Mem), Inv DK M1 → (∀ k, 189 ≤ k → M1 k = M k) →
      (¬ ((0 ≤ a1 ∧ a1 ≤ 3) ∧ (0 ≤ a2 ∧ a2 ≤ 2) ∧ (a2 ≠ 0 → (0 ≤ a3 ∧ a3 < M 189 3))) → r = -2) →
      (∀ j : Nat, a1 = (j : Int) → j < 4 → (0 ≤ a2 ∧ a2 ≤ 2) → (a2 ≠ 0 → (0 ≤ a3 ∧ a3 < M 189 3)) → M 209 j = 0 → r = -11) →
      (∀ j : Nat, a1 = (j : Int) → j < 4 → (0 ≤ a2 ∧ a2 ≤ 2) → (a2 ≠ 0 → (0 ≤ a3 ∧ a3 < M 189 3)) → M 209 j ≠ 0 → 5 < M 210 j → r = -2) →
      (∀ j z : Nat, a1 = (j : Int) → j < 4 → M 209 j ≠ 0 → M 210 j = (z : Int) → z ≤ 5 → a2 = 0 → r = firstF (notO (rungs (M 190)) (fun i => M 211 (40 * j + i)) (fun i => hasB (M 190) (M 191) (M 192) (M 193) noY (heldF (M 193)) (M 189 3) (i + 1))) z) →
      (∀ j z b : Nat, a1 = (j : Int) → j < 4 → M 209 j ≠ 0 → M 210 j = (z : Int) → z ≤ 5 → a3 = (b : Int) → (b : Int) < M 189 3 → (a2 = 1 ∨ a2 = 2) → r = (if a2 = 1 then cntB (okT (M 190) (M 191) (M 192) (M 193) (M 189 3) b (fun i => M 211 (40 * j + i)) z) 100 else firstF (okT (M 190) (M 191) (M 192) (M 193) (M 189 3) b (fun i => M 211 (40 * j + i)) z) 100)) →
      wp_X12_tells 189 a1 a2 a3 M1 (fun r2 M2 => w32 r = w32 r2 ∧ Inv DK M2) := by
    intro r M1 hI1 e c1 c2 c3 c4 c5
    have n2' : 0 ≤ M1 189 3 ∧ M1 189 3 ≤ 5 := by rw [e 189 (by decide)]; exact n2
    unfold wp_X12_tells wp_X12_isSheet
    rw [X12_within_iff, wl_0, wl_3, w32_R h1]
    refine dcf (fun z1 => ?_) (fun z1 => ⟨by rw [c1 (fun z => z1 z.1)], hI1⟩)
    rw [X12_within_iff, wl_0, wl_2, w32_R h2]
    refine dcf (fun z2 => ?_) (fun z2 => ⟨by rw [c1 (fun z => z2 z.2.1)], hI1⟩)
    obtain ⟨j, rfl⟩ : ∃ j : Nat, a1 = (j : Int) := ⟨a1.toNat, by omega⟩
    have hj : j < 4 := by omega
    obtain ⟨v1, v2, v3, v4, v5, v6, v7, v8⟩ := InvS_j hI hj
    have b31 : (a2 ≠ 0 → (0 ≤ a3 ∧ a3 < M 189 3)) → wp_X12_tells_b31 189 (fun r2 M2 => w32 r = w32 r2 ∧ Inv DK M2) M1 (j : Int) a2 a3 := by
      intro z3
      have c2 := c2 j rfl hj z2 z3
      have c3 := c3 j rfl hj z2 z3
      unfold wp_X12_tells_b31
      rw [rtv_189_31, rtv_189_32, ixn (show j < 2147483648 by omega), e 209 (by decide), e 210 (by decide), w32_id (z := M 209 j) (by omega) (by omega), w32_id (z := M 210 j) (by omega) (by omega), wl_5, w32_R h2]
      refine ⟨inbn LN_209 hj, fun u => ⟨inbn LN_210 hj, fun u2 => ?_, fun u2 => ⟨by rw [c3 u (by omega)], hI1⟩⟩, fun u => ⟨by rw [c2 (by omega)], hI1⟩⟩
      obtain ⟨z, hz⟩ : ∃ z : Nat, M 210 j = (z : Int) := ⟨(M 210 j).toNat, by omega⟩
      have hz5 : z ≤ 5 := by omega
      refine ⟨fun u3 => ?_, fun u3 => ?_⟩
      · obtain ⟨b, rfl⟩ : ∃ b : Nat, a3 = (b : Int) := ⟨a3.toNat, by have := z3 u3; omega⟩
        have hb := (z3 u3).2
        have hb5 : b < 5 := by omega
        refine of_ok (w := 6) rfl hb5 (by decide) ?_
        rw [show 5 * 6 + b = 30 + b by omega]
        refine tells_ref hD hI1 hj (by rw [e 189 (by decide)]; exact hb) (by rw [e 210 (by decide)]; exact hz) hz5 h2 (fun M2 hF => ⟨?_, Inv_FrP hD hI1 hF⟩)
        rw [e 190 (by decide), e 191 (by decide), e 192 (by decide), e 193 (by decide), e 189 (by decide), e 211 (by decide), c5 j z b rfl hj u hz hz5 rfl hb (by omega)]
      · refine unlike_ok (Inv_RefOK hI1) hj (by rw [e 210 (by decide)]; exact hz) hz5 (fun M2 p1 p2 => ⟨?_, Inv_FrP hD hI1 p2⟩)
        rw [e 190 (by decide), e 191 (by decide), e 192 (by decide), e 193 (by decide), e 189 (by decide)] at p1
        rw [e 190 (by decide), e 211 (by decide), c4 j z rfl hj u hz hz5 (by omega), notO_congr (fun _ _ => rfl) (fun i hi => (p1.1 i hi).1) hz5]
    refine ⟨fun u => b31 (fun z => by omega), fun u => ?_⟩
    rw [isBond_iff rfl n2' h3]
    refine dct (fun z3 => b31 (fun _ => by rw [e 189 (by decide)] at z3; exact z3)) (fun z3 => ⟨by rw [c1 (fun z => z3 (by rw [e 189 (by decide)]; exact z.2.2 (by omega)))], hI1⟩)
  have bad : ¬ ((0 ≤ a1 ∧ a1 ≤ 3) ∧ (0 ≤ a2 ∧ a2 ≤ 2) ∧ (a2 ≠ 0 → (0 ≤ a3 ∧ a3 < M 189 3))) → wp_X12_tells 189 a1 a2 a3 M (fun r2 M2 => w32 (-2) = w32 r2 ∧ Inv DK M2) := fun nz => by
    refine ref _ M hI (fun _ _ => rfl) (fun _ => rfl) (fun j y1 y2 y3 y4 _ => absurd ⟨by omega, y3, y4⟩ nz) (fun _ _ _ _ _ _ _ => rfl) (fun j z y1 y2 _ _ _ y3 => absurd ⟨by omega, by omega, fun q => absurd y3 q⟩ nz) (fun j z b y1 y2 _ _ _ y3 y4 y5 => absurd ⟨by omega, by omega, fun _ => by omega⟩ nz)
  unfold wp_X11_tells wp_X11_isSheet
  rw [X11_within_iff, wl_0, wl_3, w32_R h1]
  refine dcf (fun z1 => ?_) (fun z1 => bad (fun z => z1 z.1))
  rw [X11_within_iff, wl_0, wl_2, w32_R h2]
  refine dcf (fun z2 => ?_) (fun z2 => bad (fun z => z2 z.2.1))
  obtain ⟨j, rfl⟩ : ∃ j : Nat, a1 = (j : Int) := ⟨a1.toNat, by omega⟩
  have hj : j < 4 := by omega
  have jj : ∀ i : Nat, (j : Int) = (i : Int) → i = j := fun i hi => by omega
  obtain ⟨v1, v2, v3, v4, v5, v6, v7, v8⟩ := InvS_j hI hj
  have b34 : (a2 ≠ 0 → (0 ≤ a3 ∧ a3 < M 189 3)) → wp_X11_tells_b34 0 (fun r M1 => wp_X12_tells 189 (j : Int) a2 a3 M1 (fun r2 M2 => w32 r = w32 r2 ∧ Inv DK M2)) M (j : Int) a2 a3 := by
    intro z3
    unfold wp_X11_tells_b34
    rw [rtv_0_17, ixn (show j < 2147483648 by omega), rt_180 j hj, v4, wl_5, w32_id (z := M 210 j) (by omega) (by omega)]
    refine ⟨inbn LN_180 hj, ?_⟩
    rw [isMissing_iff v1 ⟨v2, v3⟩]
    refine dcf (fun y1 => ?_) (fun y1 => ⟨fun y2 => ?_, fun y2 => ?_⟩)
    · refine ref _ M hI (fun _ _ => rfl) (fun z => absurd ⟨z1, z2, z3⟩ z) (fun _ _ _ _ _ _ => rfl) (fun i hi _ _ _ q => ?_) (fun i z hi _ q => ?_) (fun i z b hi _ q => ?_)
      · rw [jj i hi] at q; exact absurd y1 q
      · rw [jj i hi] at q; exact absurd y1 q
      · rw [jj i hi] at q; exact absurd y1 q
    case refine_3 =>
      refine ref _ M hI (fun _ _ => rfl) (fun z => absurd ⟨z1, z2, z3⟩ z) (fun i hi _ _ _ q => ?_) (fun _ _ _ _ _ _ _ => rfl) (fun i z hi _ _ q q2 => ?_) (fun i z b hi _ _ q q2 => ?_)
      · rw [jj i hi] at q; exact absurd q y1
      · rw [jj i hi] at q; omega
      · rw [jj i hi] at q; omega
    obtain ⟨z, hz⟩ : ∃ z : Nat, M 210 j = (z : Int) := ⟨(M 210 j).toNat, by omega⟩
    have hz5 : z ≤ 5 := by omega
    refine look_ok' hI (fun M0 hI0 hS hf he => ?_)
    have hg := Inv_Rng hI0
    have hR0 := Inv_RefOK hI0
    have hN5 := hR0.2.1
    obtain ⟨m1, m2⟩ := Inv_n hI0
    have hB0 := hI0.1
    have it0 : ∀ i, i < 40 → M0 (182 + 2 * j) i = M0 211 (40 * j + i) := fun i hi => ((InvS_j hI0 hj).2.2.2.2.2.2.2 i hi).1
    have sz0 : M0 (181 + 2 * j) 2 = (z : Int) := by rw [(InvS_j hI0 hj).2.2.2.1, he 210 (by decide)]; exact hz
    refine readHeld_ok (n := (M0 189 3).toNat) (by rw [m1]; exact (Int.toNat_of_nonneg m2.1).symm) (by omega) (fun M1 r1 r2 r3 => ?_)
    have scene : ∀ M' : Mem, (∀ k c, k ≠ 71 → k ≠ 177 → k ≠ 178 → k ≠ 179 → M' k c = M0 k c) → SceneOK M' 27 (M0 190) (M0 191) (M0 192) (M0 193) noY (M0 189 3) := by
      intro M' h
      have row : ∀ k, k < 71 → M' k = M0 k := fun k hk => funext fun c => h k c (by omega) (by omega) (by omega) (by omega)
      unfold SceneOK at *
      obtain ⟨s1, s2, s3, s4⟩ := hS
      rw [row 27 (by decide), row (27 + 1) (by decide), row (27 + 2) (by decide), row (27 + 3) (by decide), row (27 + 4) (by decide), row (27 + 5) (by decide), row (27 + 6) (by decide), row (27 + 19) (by decide), row (27 + 20) (by decide)]
      refine ⟨s1, s2, s3, fun b hb => ?_⟩
      have hb5 : b < 5 := by omega
      rw [row (27 + 8 + b) (by omega), row (27 + 14 + b) (by omega)]
      exact s4 b hb
    have held1 : ∀ b : Nat, (b : Int) < M0 189 3 → M1 71 b = heldF (M0 193) b ∧ 0 ≤ heldF (M0 193) b ∧ heldF (M0 193) b ≤ 99 := fun b hb => by
      rw [r1 b (by omega)]
      have t6 := (BookR_t hB0 hb).2.1 6 (by decide)
      rw [show 5 * 6 + b = 30 + b by omega] at t6
      exact ⟨t6, (BookR_t hB0 hb).2.2.2.2.2.2.2.2⟩
    have held0 : ∀ b : Nat, ¬ (b : Int) < M0 189 3 → b < 5 → M1 71 b = 0 := fun b hb hb5 => r2 b (by omega) hb5
    have r3' : ∀ k c, k ≠ 71 → k ≠ 177 → k ≠ 178 → k ≠ 179 → M1 k c = M0 k c := fun k c a _ _ _ => r3 k c a
    have fin : ∀ (r : Int) (M2 : Mem), (∀ k c, k ≠ 71 → k ≠ 177 → k ≠ 178 → k ≠ 179 → M2 k c = M0 k c) → (a2 = 0 → r = firstF (notO (rungs (M 190)) (fun i => M 211 (40 * j + i)) (fun i => hasB (M 190) (M 191) (M 192) (M 193) noY (heldF (M 193)) (M 189 3) (i + 1))) z) → (∀ b : Nat, a3 = (b : Int) → (b : Int) < M 189 3 → (a2 = 1 ∨ a2 = 2) → r = (if a2 = 1 then cntB (okT (M 190) (M 191) (M 192) (M 193) (M 189 3) b (fun i => M 211 (40 * j + i)) z) 100 else firstF (okT (M 190) (M 191) (M 192) (M 193) (M 189 3) b (fun i => M 211 (40 * j + i)) z) 100)) → wp_X12_tells 189 (j : Int) a2 a3 M2 (fun r2 M2 => w32 r = w32 r2 ∧ Inv DK M2) := by
      intro r M2 hM2 q1 q2
      have hFc : FrC M0 M2 := fun k c _ _ b d e f => hM2 k c b d e f
      refine ref r M2 (Inv_FrC hD hI0 hFc) (fun k hk => ?_) (fun x => absurd ⟨z1, z2, z3⟩ x) (fun i hi _ _ _ q => ?_) (fun i hi _ _ _ _ q => ?_) (fun i z' hi _ _ q _ q3 => ?_) (fun i z' b hi _ _ q _ q3 q4 q5 => ?_)
      · rw [← he k hk]
        exact funext fun c => hM2 k c (by omega) (by omega) (by omega) (by omega)
      · rw [jj i hi] at q; exact absurd q y1
      · rw [jj i hi] at q; omega
      · rw [jj i hi] at q ⊢
        have : z' = z := by omega
        rw [this]; exact q1 q3
      · rw [jj i hi] at q ⊢
        have : z' = z := by omega
        rw [this]; exact q2 b q3 q4 q5
    rw [w32_R h2, rtv_0_16, rtv_0_3, rtv_0_8]
    refine ⟨fun u => ?_, fun u => ?_⟩
    case refine_2 =>
      refine play_scene (hv := heldF (M0 193)) (Or.inl rfl) (scene M1 r3') hg noY_yR held1 held0 (fun M2 p1 p2 p3 p4 p5 p6 p7 => ?_)
      have fr2 : ∀ k c, k ≠ 71 → k ≠ 177 → k ≠ 178 → k ≠ 179 → M2 k c = M0 k c := fun k c a b d e => (p7 k c b d e).trans (r3 k c a)
      refine firstOtherwise_ok hj ((fr2 _ _ (by omega) (by omega) (by omega) (by omega)).trans sz0) hz5 p1 hN5 (fin _ M2 fr2 (fun _ => ?_) (fun b _ _ q => absurd u (by omega)))
      rw [notO_congr (it := fun i => M0 211 (40 * j + i)) (ca := fun i => hasB (M0 190) (M0 191) (M0 192) (M0 193) noY (heldF (M0 193)) (M0 189 3) (i + 1)) (fun i hi => (fr2 _ _ (by omega) (by omega) (by omega) (by omega)).trans (it0 i hi)) (fun i hi => (p6 i hi).1) hz5]
      rw [he 190 (by decide), he 191 (by decide), he 192 (by decide), he 193 (by decide), he 189 (by decide), he 211 (by decide)]
    obtain ⟨b, rfl⟩ : ∃ b : Nat, a3 = (b : Int) := ⟨a3.toNat, by have := z3 u; omega⟩
    have hb : (b : Int) < M0 189 3 := by rw [he 189 (by decide)]; exact (z3 u).2
    have hb5 : b < 5 := by omega
    obtain ⟨g, hgg⟩ : ∃ g : Nat → Bool, g = okT (M0 190) (M0 191) (M0 192) (M0 193) (M0 189 3) b (fun i => M0 211 (40 * j + i)) z := ⟨_, rfl⟩
    refine ⟨fun M' x5 x6 x7 => ∃ k : Nat, x7 = (k : Int) ∧ k ≤ 100 ∧ x5 = cntB g k ∧ x6 = firstF g k ∧ (∀ c, c ≠ b → M' 71 c = M1 71 c) ∧ (∀ k c, k ≠ 71 → k ≠ 177 → k ≠ 178 → k ≠ 179 → M' k c = M0 k c), fun _ _ _ x7 => (100 - x7).toNat, ⟨0, rfl, by omega, rfl, rfl, fun _ _ => rfl, r3'⟩, ?_⟩
    rintro M2 x5 x6 x7 ⟨k, rfl, hk, rfl, rfl, f1, f2⟩
    unfold wp_X11_tells_B111 wp_X11_tells_b170 wp_X11_tells_b172
    dsimp only
    have rg := firstF_range g k
    have cr := cntB_range g k
    rw [wl_99, wl_1, wm_1, w32_R h2, w32n (show k < 2147483648 by omega), w32_id (z := firstF g k) (by omega) (by omega), rtv_0_16, rtv_0_3, rtv_0_8, ixn (show b < 2147483648 by omega)]
    refine ⟨fun u2 => ?_, fun u2 => ⟨inbn LN_71 hb5, ?_⟩⟩
    · have : k = 100 := by omega
      subst this
      have eo : g = okT (M 190) (M 191) (M 192) (M 193) (M 189 3) b (fun i => M 211 (40 * j + i)) z := by
        rw [hgg, he 190 (by decide), he 191 (by decide), he 192 (by decide), he 193 (by decide), he 189 (by decide), he 211 (by decide)]
      refine ⟨fun u3 => ?_, fun u3 => fin _ M2 f2 (fun q => absurd q u) (fun b' hb' _ _ => ?_)⟩
      · have ff := fin (firstF g 100) M2 f2 (fun q => absurd q u) (fun b' hb' _ _ => by
          have : b' = b := by omega
          subst this
          rw [if_neg u3, eo])
        rw [w32_id (z := firstF g 100) (by omega) (by omega)] at ff
        exact ff
      · have : b' = b := by omega
        subst this
        rw [if_pos (by omega), eo]
    · rintro M125 rfl
      have fr3 : ∀ k' c, k' ≠ 71 → k' ≠ 177 → k' ≠ 178 → k' ≠ 179 → st2 M2 71 b (k : Int) k' c = M0 k' c := fun k' c a d e f => by rw [st2_off _ _ a]; exact f2 k' c a d e f
      refine play_scene (hv := updI (heldF (M0 193)) b (k : Int)) (Or.inl rfl) (scene _ fr3) hg noY_yR (fun c hc => ?_) (fun c hc hc5 => ?_) (fun M3 p1 p2 p3 p4 p5 p6 p7 => ?_)
      · unfold updI
        by_cases q : c = b
        · subst q; rw [st2_s, if_pos rfl]; omega
        · rw [st2_n _ _ (by omega), if_neg q, f1 c q]; exact held1 c hc
      · rw [st2_n _ _ (by omega), f1 c (by omega)]; exact held0 c hc hc5
      have fr4 : ∀ k' c, k' ≠ 71 → k' ≠ 177 → k' ≠ 178 → k' ≠ 179 → M3 k' c = M0 k' c := fun k' c a d e f => (p7 k' c d e f).trans (fr3 k' c a d e f)
      refine firstOtherwise_ok hj ((fr4 _ _ (by omega) (by omega) (by omega) (by omega)).trans sz0) hz5 p1 hN5 ?_
      rw [notO_congr (it := fun i => M0 211 (40 * j + i)) (ca := fun i => hasB (M0 190) (M0 191) (M0 192) (M0 193) noY (updI (heldF (M0 193)) b (k : Int)) (M0 189 3) (i + 1)) (fun i hi => (fr4 _ _ (by omega) (by omega) (by omega) (by omega)).trans (it0 i hi)) (fun i hi => (p6 i hi).1) hz5]
      have eg : g k = decide (firstF (notO (rungs (M0 190)) (fun i => M0 211 (40 * j + i)) (fun i => hasB (M0 190) (M0 191) (M0 192) (M0 193) noY (updI (heldF (M0 193)) b (k : Int)) (M0 189 3) (i + 1))) z = -1) := by rw [hgg]; rfl
      have fr := firstF_range (notO (rungs (M0 190)) (fun i => M0 211 (40 * j + i)) (fun i => hasB (M0 190) (M0 191) (M0 192) (M0 193) noY (updI (heldF (M0 193)) b (k : Int)) (M0 189 3) (i + 1))) z
      generalize firstF (notO (rungs (M0 190)) (fun i => M0 211 (40 * j + i)) (fun i => hasB (M0 190) (M0 191) (M0 192) (M0 193) noY (updI (heldF (M0 193)) b (k : Int)) (M0 189 3) (i + 1))) z = r at *
      have f71 : ∀ c, c ≠ b → M3 71 c = M1 71 c := fun c hc => by rw [p7 71 c (by omega) (by omega) (by omega), st2_n _ _ (by omega)]; exact f1 c hc
      have es : cntB g (k + 1) = cntB g k + if g k then 1 else 0 := rfl
      have ef : firstF g (k + 1) = if firstF g k ≠ -1 then firstF g k else if g k then (k : Int) else -1 := rfl
      rw [w32_id (z := r) (by omega) (by omega)]
      refine ⟨fun u3 => ⟨⟨k + 1, by omega, by omega, ?_, ?_, f71, fr4⟩, by omega⟩, fun u3 => ⟨fun u4 => ⟨⟨k + 1, by omega, by omega, ?_, ?_, f71, fr4⟩, by omega⟩, fun u4 => ⟨⟨k + 1, by omega, by omega, ?_, ?_, f71, fr4⟩, by omega⟩⟩⟩
      · have gk : g k = false := by rw [eg]; exact decide_eq_false u3
        rw [es, gk]; simp
      · have gk : g k = false := by rw [eg]; exact decide_eq_false u3
        rw [ef, gk]
        split
        · rfl
        · simp; omega
      · have gk : g k = true := by rw [eg]; exact decide_eq_true (by omega)
        rw [es, gk]; simp
      · rw [ef, if_pos u4]
      · have gk : g k = true := by rw [eg]; exact decide_eq_true (by omega)
        rw [es, gk]; simp
      · have gk : g k = true := by rw [eg]; exact decide_eq_true (by omega)
        rw [ef, if_neg u4, gk]; simp
  refine ⟨fun u => b34 (fun z => absurd u z), fun u => ?_⟩
  rw [rtv_0_0, hasBond_iff n1 n2 h3]
  exact dct (fun z3 => b34 (fun _ => z3)) (fun z3 => bad (fun z => z3 (z.2.2 u)))
