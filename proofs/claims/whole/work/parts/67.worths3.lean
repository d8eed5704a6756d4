theorem spS_none {rr am : F1} (i : Nat) : spS rr am none (i + 1) = none := by
  show ob addq (spS rr am none i) (ob mulq (ob mulq (distS none i) (distS none i)) (wAtS rr (am i) (i + 1))) = none
  rw [show distS none i = none from rfl, show ob mulq none none = none from rfl, ob_l, ob_r]
theorem step_13 {DK : Mem → Prop} (hD : KeptH DK) : Step_13 (Inv DK) := by
  intro M hI a1 a2 a3 h1 h2 h3
  obtain ⟨n1, n2⟩ := Inv_n hI
  have bad : ¬ ((-2 ≤ a1 ∧ a1 < M 189 3) ∧ (0 ≤ a2 ∧ a2 ≤ 1) ∧ (0 ≤ a3 ∧ a3 ≤ 1)) → wp_X12_length 189 a1 a2 a3 M (fun r2 M2 => w64 (-9223372036854775808) = w64 r2 ∧ Inv DK M2) := by
    intro nz
    unfold wp_X12_length
    rw [isRow_ref h1 rfl n2]
    refine dcf (fun z => ?_) (fun _ => ⟨rfl, hI⟩)
    rw [X12_within_iff, wl_0, wl_1, w32_R h2]
    refine dcf (fun z2 => ?_) (fun _ => ⟨rfl, hI⟩)
    rw [X12_within_iff, wl_0, wl_1, w32_R h3]
    exact dct (fun z3 => absurd ⟨z, z2, z3⟩ nz) (fun _ => ⟨rfl, hI⟩)
  unfold wp_X11_length wp_X11_isPart
  rw [isRow_cls h1 n1 n2]
  refine dcf (fun e1 => ?_) (fun e1 => bad (fun z => e1 z.1))
  rw [X11_within_iff, wl_0, wl_1, w32_R h2]
  refine dcf (fun e2 => ?_) (fun e2 => bad (fun z => e2 z.2.1))
  rw [X11_within_iff, wl_0, wl_1, w32_R h3]
  refine dct (fun e3 => ?_) (fun e3 => bad (fun z => e3 z.2.2))
  refine reckonRow_ok hD hI (rowOK_of e1) (fun M1 hI1 he h27 hw hat hhi => ?_)
  have hR1 := Inv_RefOK hI1
  have hg := Inv_Rng hI
  have hN := hg.2.1
  have hrr : RR (rrS (M 190) (M 191) noY) (rungs (M 190)) := fun c hc => RefOK_rr (Inv_RefOK hI) hc
  have haL : ∀ i, i < rungs (M 190) → inL (amtS (M 190) (M 191) (M 193) (M 189 3) a1 i) := fun i hi => inL_R (amtS_R hg (rowOK_of e1) hi)
  -- the reference from a like state
  have ref : ∀ (r : Int) (M2 : Mem), Inv DK M2 → (∀ k, 189 ≤ k → M2 k = M k) →
      ((∀ y, wS3 (M 190) (M 191) (M 193) (M 189 3) a1 = some y → y.1 = 0) → r = NOv) →
      ((∃ y, wS3 (M 190) (M 191) (M 193) (M 189 3) a1 = some y ∧ y.1 ≠ 0) → r = if a2 = 0 then partq (lS3 (M 190) (M 191) (M 193) (M 189 3) a1) a3 else partq (sS3 (M 190) (M 191) (M 193) (M 189 3) a1) a3) →
      wp_X12_length 189 a1 a2 a3 M2 (fun r2 M2 => w64 r = w64 r2 ∧ Inv DK M2) := by
    intro r M2 hI2 he2 c1 c2
    have hR2 := Inv_RefOK hI2
    unfold wp_X12_length wp_X12_length_b87
    rw [isRow_ref h1 (show M2 189 3 = M 189 3 by rw [he2 189 (by decide)]) n2]
    refine dcf (fun _ => ?_) (fun z => absurd e1 z)
    rw [X12_within_iff, wl_0, wl_1, w32_R h2]
    refine dcf (fun _ => ?_) (fun z => absurd e2 z)
    rw [X12_within_iff, wl_0, wl_1, w32_R h3]
    refine dct (fun _ => ?_) (fun z => absurd e3 z)
    rintro M32 rfl
    obtain ⟨fF, f0⟩ := FrF_flag0 M2
    obtain ⟨r1, r2, r3, -, r5, r6, -⟩ := FrF_ref hR2 fF
    have hA := AmtOK_ok r1 (row := a1) (by rw [r6, he2 189 (by decide)]; exact rowOK_of e1)
    rw [vl_0]
    refine worthOf_ok r1 f0 hA (fun M3 p1 p2 => ?_)
    have fr3 := FrF_trans fF p2
    obtain ⟨s1, s2, s3, -, s5, s6, -⟩ := FrF_ref hR2 fr3
    rw [r2, r3, r5, r6] at p1
    have eW : whS (rrS (M2 190) (M2 191) noY) (amtS (M2 190) (M2 191) (M2 193) (M2 189 3) a1) (rungs (M2 190)) = wS3 (M 190) (M 191) (M 193) (M 189 3) a1 := by
      rw [he2 190 (by decide), he2 191 (by decide), he2 193 (by decide), he2 189 (by decide)]
      rfl
    rw [eW] at p1
    have p1 : RF M3 (wS3 (M 190) (M 191) (M 193) (M 189 3) a1) := p1
    have hA3 := AmtOK_F hA p2
    rw [r2, r3, r5, r6] at hA3
    have wF : FrO (wS3 (M 190) (M 191) (M 193) (M 189 3) a1) := whS_Fr hrr haL _ (Nat.le_refl _)
    cases q : wS3 (M 190) (M 191) (M 193) (M 189 3) a1 with
    | none =>
      rw [q] at p1
      have c1 := c1 (fun y hy => by rw [q] at hy; cases hy)
      refine ⟨fun _ => ⟨by rw [c1]; rfl, Inv_FrF hD hI2 fr3⟩, fun z => ?_⟩
      rw [show fb M3 189 8 = true from p1] at z
      cases z
    | some x =>
      rw [q] at p1
      have xF := wF x q
      have x1 := (Fr_in xF).1
      refine ⟨fun z => (by rw [p1.1] at z; cases z), fun _ => ?_⟩
      rw [p1.2.1, w64_in x1]
      refine ⟨fun nz => ?_, fun z => ?_⟩
      · have c2 := c2 ⟨x, q, nz⟩
        have hnz : ∀ y, whS (rrS (M3 190) (M3 191) noY) (amtS (M2 190) (M2 191) (M2 193) (M2 189 3) a1) (rungs (M3 190)) = some y → y.1 ≠ 0 := fun y hy => by
          rw [s2, s3, eW, q] at hy
          cases hy
          exact nz
        have eL : ob divq (ltS (rrS (M2 190) (M2 191) noY) (amtS (M2 190) (M2 191) (M2 193) (M2 189 3) a1) (rungs (M2 190))) (whS (rrS (M2 190) (M2 191) noY) (amtS (M2 190) (M2 191) (M2 193) (M2 189 3) a1) (rungs (M2 190))) = lS3 (M 190) (M 191) (M 193) (M 189 3) a1 := by
          rw [eW, he2 190 (by decide), he2 191 (by decide), he2 193 (by decide), he2 189 (by decide)]
          rfl
        refine lengthOf_ok s1 p1.1 hA3 hnz (tw := false) (mid := none) (fun z => by cases z) (fun M4 t1 t2 => ?_)
        simp only [Bool.false_eq_true, if_false] at t1
        rw [s2, s3, eL] at t1
        have t1 : RF M4 (lS3 (M 190) (M 191) (M 193) (M 189 3) a1) := t1
        have fr4 := FrF_trans fr3 t2
        refine ⟨fun u => rpart_ok h3 t1 ⟨?_, Inv_FrF hD hI2 fr4⟩, fun u => ?_⟩
        · rw [c2, if_pos (by omega)]
        · obtain ⟨v1, v2, v3, -, v5, v6, -⟩ := FrF_ref hR2 fr4
          have hA4 := AmtOK_F hA3 t2
          have lF : FrO (lS3 (M 190) (M 191) (M 193) (M 189 3) a1) := by
            refine ob_div_Fr (ltS_Fr hN hrr haL _ (Nat.le_refl _)) (fun y hy => ?_)
            rw [q] at hy
            cases hy
            exact nz
          have hnz4 : ∀ y, whS (rrS (M4 190) (M4 191) noY) (amtS (M2 190) (M2 191) (M2 193) (M2 189 3) a1) (rungs (M4 190)) = some y → y.1 ≠ 0 := fun y hy => by
            rw [v2, v3, eW, q] at hy
            cases hy
            exact nz
          refine lengthOf_ok v1 (RF_flag t1) hA4 hnz4 (tw := true) (mid := lS3 (M 190) (M 191) (M 193) (M 189 3) a1) (fun _ => ⟨lF, RF_acc t1, rfl⟩) (fun M5 y1 y2 => ?_)
          simp only [if_true] at y1
          rw [v2, v3, eW] at y1
          have eS : rst (lS3 (M 190) (M 191) (M 193) (M 189 3) a1).isNone (ob divq (spS (rrS (M2 190) (M2 191) noY) (amtS (M2 190) (M2 191) (M2 193) (M2 189 3) a1) (lS3 (M 190) (M 191) (M 193) (M 189 3) a1) (rungs (M2 190))) (wS3 (M 190) (M 191) (M 193) (M 189 3) a1)) = sS3 (M 190) (M 191) (M 193) (M 189 3) a1 := by
            rw [he2 190 (by decide), he2 191 (by decide), he2 193 (by decide), he2 189 (by decide)]
            unfold sS3
            cases q5 : lS3 (M 190) (M 191) (M 193) (M 189 3) a1 with
            | some z => rfl
            | none =>
              cases q6 : rungs (M 190) with
              | zero =>
                exfalso
                unfold wS3 at q
                rw [q6] at q
                have : whS (rrS (M 190) (M 191) noY) (amtS (M 190) (M 191) (M 193) (M 189 3) a1) 0 = some (0, 1) := rfl
                rw [this] at q
                cases q
                exact nz rfl
              | succ m => rw [spS_none, ob_l]; rfl
          rw [eS] at y1
          refine rpart_ok h3 y1 ⟨?_, Inv_FrF hD hI2 (FrF_trans fr4 y2)⟩
          rw [c2, if_neg (by omega)]
      · have c1 := c1 (fun y hy => by rw [q] at hy; cases hy; omega)
        exact ⟨by rw [c1]; rfl, Inv_FrF hD hI2 fr3⟩
  -- the class
  rw [rtv_0_10, rtv_0_3, rt73.1, rt73.2.1, rt73.2.2.1, vl_0, h27]
  refine ⟨fun nz => ?_, fun z => ?_⟩
  case refine_2 =>
    refine ref _ M1 hI1 he (fun _ => rfl) (fun ⟨y, hy, hy2⟩ => ?_)
    rw [hy] at hw
    rw [hw.2.1] at z
    have yF : Fr y := whS_Fr hrr haL _ (Nat.le_refl _) y hy
    rw [w64_in (Fr_in yF).1] at z
    exact absurd hy2 z
  have hnz : ∀ y, whS (rrS (M 190) (M 191) noY) (amtS (M 190) (M 191) (M 193) (M 189 3) a1) (rungs (M 190)) = some y → y.1 ≠ 0 := fun y hy => by
    have hw : FR M1 74 (whS (rrS (M 190) (M 191) noY) (amtS (M 190) (M 191) (M 193) (M 189 3) a1) (rungs (M 190))) := hw
    have yF : Fr y := whS_Fr hrr haL _ (Nat.le_refl _) y hy
    rw [hy] at hw
    rw [hw.2.1, w64_in (Fr_in yF).1] at nz
    exact nz
  -- where WORTH itself is GREAT, so is what comes of it
  have gone : (∀ y, wS3 (M 190) (M 191) (M 193) (M 189 3) a1 = some y → y.1 = 0) → lS3 (M 190) (M 191) (M 193) (M 189 3) a1 = none ∧ sS3 (M 190) (M 191) (M 193) (M 189 3) a1 = none := by
    intro hz
    have e : wS3 (M 190) (M 191) (M 193) (M 189 3) a1 = none := by
      cases q : wS3 (M 190) (M 191) (M 193) (M 189 3) a1 with
      | none => rfl
      | some y => exact absurd (hz y q) (hnz y q)
    unfold lS3 sS3
    rw [e, ob_r, ob_r]
    exact ⟨rfl, rfl⟩
  have lF : FrO (lS3 (M 190) (M 191) (M 193) (M 189 3) a1) := ob_div_Fr (ltS_Fr hN hrr haL _ (Nat.le_refl _)) hnz
  refine reckonLength_ok hN hrr haL hw hnz hat (fun M2 p1 p2 => ?_)
  have p1 : FR M2 75 (lS3 (M 190) (M 191) (M 193) (M 189 3) a1) := p1
  have fr2 : FrW M1 M2 := fun k j q => p2 k j (by omega) (by omega)
  have he2 : ∀ M', FrW M1 M' → ∀ k, 189 ≤ k → M' k = M k := fun M' h k hk => by rw [← he k hk]; exact funext fun c => h k c (by omega)
  rw [p2 27 0 (by decide) (by decide), h27]
  refine ⟨fun u => ?_, fun u => ?_⟩
  · refine reckonSpread_ok lF hN hrr haL (FR_same hw (fun j => p2 _ j (by decide) (by decide))) hnz p1 (fun i hi => FR_same (hat i hi) (fun j => p2 _ j (by omega) (by omega))) (fun M3 q1 q2 => part_ok h3 q1 ?_)
    have fr3 : FrW M1 M3 := fun k j q => by rw [q2 k j (by omega) (by omega) (by omega)]; exact fr2 k j q
    refine ref _ M3 (Inv_FrW hD hI1 fr3) (he2 M3 fr3) (fun hz => ?_) (fun _ => by rw [if_neg u]; rfl)
    have := (gone hz).2
    unfold sS3 wS3 at this
    rw [this]
    rfl
  · refine part_ok h3 p1 (ref _ M2 (Inv_FrW hD hI1 fr2) (he2 M2 fr2) (fun hz => ?_) (fun _ => by rw [if_pos (by omega)]))
    rw [(gone hz).1]
    rfl
theorem step_14 {DK : Mem → Prop} (hD : KeptH DK) : Step_14 (Inv DK) := by
  intro M hI a1 h1
  unfold wp_X11_surplus wp_X11_isPart
  rw [X11_within_iff, wl_0, wl_1, w32_R h1]
  refine dct (fun e1 => ?_) (fun e1 => ?_)
  case refine_2 =>
    dsimp only
    unfold wp_X12_surplus
    rw [X12_within_iff, wl_0, wl_1, w32_R h1]
    exact dct (fun z => absurd z e1) (fun _ => ⟨rfl, hI⟩)
  have hg := Inv_Rng hI
  have hrr : RR (rrS (M 190) (M 191) noY) (rungs (M 190)) := fun c hc => RefOK_rr (Inv_RefOK hI) hc
  have wF : ∀ row, rowOK (M 189 3) row → FrO (wS3 (M 190) (M 191) (M 193) (M 189 3) row) := fun row hr => whS_Fr hrr (fun i hi => inL_R (amtS_R hg hr hi)) _ (Nat.le_refl _)
  have ok1 : rowOK (M 189 3) (-2) := Or.inr (Or.inl rfl)
  have ok2 : rowOK (M 189 3) (-1) := Or.inl rfl
  refine reckonRow_ok hD hI ok1 (fun M1 hI1 he h27 hw hat hhi => ?_)
  rw [rtv_0_10, rtv_0_11, rt73.1]
  refine becomeF_ok (by decide) hw (fun M2 p1 p2 => ?_)
  have fr2 : FrW M1 M2 := fun k j q => p2 k j (by omega)
  have hI2 := Inv_FrW hD hI1 fr2
  have he2 : ∀ k, 189 ≤ k → M2 k = M k := fun k hk => by rw [← he k hk]; exact funext fun c => fr2 k c (by omega)
  refine reckonRow_ok hD hI2 (row := -1) (by rw [he2 189 (by decide)]; exact ok2) (fun M3 hI3 he3 h273 hw3 hat3 hhi3 => ?_)
  rw [he2 190 (by decide), he2 191 (by decide), he2 193 (by decide), he2 189 (by decide)] at hw3
  have h86 := FR_same p1 (fun j => hhi3 86 j (by decide))
  refine negate_ok hw3 (fun M4 q1 q2 => ?_)
  refine add_ok (wF _ ok1) (map_neg_Fr (wF _ ok2)) (FR_same h86 (fun j => q2 _ j (by decide))) q1 (fun M5 s1 s2 => part_ok h1 s1 ?_)
  have fr5 : FrW M3 M5 := fun k j q => by rw [s2 k j (by omega), q2 k j (by omega)]
  have hI5 := Inv_FrW hD hI3 fr5
  have he5 : ∀ k, 189 ≤ k → M5 k = M k := fun k hk => by
    rw [← he2 k hk, ← he3 k hk]
    exact funext fun c => fr5 k c (by omega)
  -- the reference
  dsimp only
  unfold wp_X12_surplus
  rw [X12_within_iff, wl_0, wl_1, w32_R h1]
  refine dct (fun _ => ?_) (fun z => absurd e1 z)
  rintro M15 rfl
  obtain ⟨fF, f0⟩ := FrF_flag0 M5
  have hR5 := Inv_RefOK hI5
  obtain ⟨r1, r2, r3, -, r5, r6, -⟩ := FrF_ref hR5 fF
  have hA := AmtOK_ok r1 (row := -1) (Or.inl rfl)
  have hA' := AmtOK_ok r1 (row := -2) (Or.inr (Or.inl rfl))
  rw [r2, r3, r5, r6] at hA hA'
  refine worthOf_ok r1 f0 hA (fun M6 t1 t2 => ?_)
  have eW : ∀ row, whS (rrS (M5 190) (M5 191) noY) (amtS (M5 190) (M5 191) (M5 193) (M5 189 3) row) (rungs (M5 190)) = wS3 (M 190) (M 191) (M 193) (M 189 3) row := fun row => by
    rw [he5 190 (by decide), he5 191 (by decide), he5 193 (by decide), he5 189 (by decide)]
    rfl
  rw [r2, r3, eW] at t1
  have t1 : RF M6 (wS3 (M 190) (M 191) (M 193) (M 189 3) (-1)) := t1
  refine rneg_ok (wF _ ok2) (RF_acc t1) (RF_flag t1) (fun M7 u1 u2 => ?_)
  have fr7 := FrF_trans fF (FrF_trans t2 u2)
  obtain ⟨v1, v2, v3, -, v5, v6, -⟩ := FrF_ref hR5 fr7
  refine worthOf_ok v1 (RF_flag u1) (AmtOK_F hA' (FrF_trans t2 u2)) (fun M8 x1 x2 => ?_)
  rw [v2, v3, eW] at x1
  have fin : ∀ M9 : Mem, RF M9 (ob addq (wS3 (M 190) (M 191) (M 193) (M 189 3) (-2)) ((wS3 (M 190) (M 191) (M 193) (M 189 3) (-1)).map negq)) → FrF M8 M9 → wp_X12_part 189 a1 M9 (fun r73 => w64 (partq (ob addq (wS3 (M 190) (M 191) (M 193) (M 189 3) (-2)) ((wS3 (M 190) (M 191) (M 193) (M 189 3) (-1)).map negq)) a1) = w64 r73 ∧ Inv DK M9) := fun M9 y1 y2 => rpart_ok h1 y1 ⟨rfl, Inv_FrF hD hI5 (FrF_trans fr7 (FrF_trans x2 y2))⟩
  cases q : (wS3 (M 190) (M 191) (M 193) (M 189 3) (-1)).map negq with
  | none =>
    rw [q] at x1 fin
    have x1 : RF M8 none := x1
    rw [ob_r] at fin
    have e0 : ob addq (wS3 (M 190) (M 191) (M 193) (M 189 3) (-2)) none = none := ob_r _ _
    rw [e0]
    exact rsum_great x1 (fun M9 y1 y2 => fin M9 y1 y2)
  | some y =>
    rw [q] at x1 fin u1
    have x1 : RF M8 (wS3 (M 190) (M 191) (M 193) (M 189 3) (-2)) := x1
    have yF : Fr y := map_neg_Fr (wF _ ok2) y q
    cases q2 : wS3 (M 190) (M 191) (M 193) (M 189 3) (-2) with
    | none =>
      rw [q2] at x1 fin
      exact rsum_great x1 (fun M9 y1 y2 => fin M9 y1 y2)
    | some x =>
      rw [q2] at x1 fin
      rw [x1.2.1, x1.2.2, u1.2.1, u1.2.2]
      exact rsum_ok (wF _ ok1 x q2) yF x1.1 (fun M9 y1 y2 => fin M9 y1 y2)
def metS (T : Nat → Int) : Nat → Int
  | 0 => 0
  | k + 1 => if T k = 0 then metS T k + 1 else metS T k
theorem metS_range (T : Nat → Int) : ∀ k, 0 ≤ metS T k ∧ metS T k ≤ (k : Int)
  | 0 => by unfold metS; omega
  | k + 1 => by
    have := metS_range T k
    unfold metS
    split <;> omega
theorem step_22 {DK : Mem → Prop} (hD : KeptH DK) : Step_22 (Inv DK) := by
  intro M hI a1 a2 a3 h1 h2 h3
  have bad : ¬ ((1 ≤ a2 ∧ a2 ≤ 20) ∧ (0 ≤ a3 ∧ a3 ≤ 1)) → wp_X12_chance 189 a1 a2 a3 M (fun r2 M2 => w32 (-2) = w32 r2 ∧ Inv DK M2) := by
    intro nz
    unfold wp_X12_chance
    rw [X12_within_iff, wl_1, wl_20, w32_R h2]
    refine dcf (fun z => ?_) (fun _ => ⟨rfl, hI⟩)
    rw [X12_within_iff, wl_0, wl_1, w32_R h3]
    exact dct (fun z2 => absurd ⟨z, z2⟩ nz) (fun _ => ⟨rfl, hI⟩)
  unfold wp_X11_chance wp_X11_isPart
  rw [X11_within_iff, wl_1, wl_20, w32_R h2]
  refine dcf (fun e1 => ?_) (fun e1 => bad (fun z => e1 z.1))
  rw [X11_within_iff, wl_0, wl_1, w32_R h3]
  refine dct (fun e2 => ?_) (fun e2 => bad (fun z => e2 z.2))
  obtain ⟨n, rfl⟩ : ∃ n : Nat, a2 = (n : Int) := ⟨a2.toNat, by omega⟩
  obtain ⟨T, hT⟩ : ∃ T : Nat → Int, T = fun (k : Nat) => allSh (M 190) (M 191) (M 192) (M 193) (yS (a1 + (k : Int))) (heldF (M 193)) (M 189 3) := ⟨_, rfl⟩
  have hTi : ∀ k : Nat, allSh (M 190) (M 191) (M 192) (M 193) (yS (a1 + (k : Int))) (heldF (M 193)) (M 189 3) = T k := fun k => by rw [hT]
  have hTr : ∀ k, 0 ≤ T k ∧ T k ≤ 495 := fun k => by
    rw [hT]
    exact allSh_range (Inv_Rng hI) (yS_r _) (held_r hI)
  clear hT
  have mr := metS_range T
  -- the reference
  have ref : ∀ (r : Int) (M1 : Mem), Inv DK M1 → (∀ k, 189 ≤ k → M1 k = M k) → r = partq (redq (metS T n) (n : Int)) a3 → wp_X12_chance 189 a1 (n : Int) a3 M1 (fun r2 M2 => w32 r = w32 r2 ∧ Inv DK M2) := by
    intro r M1 hI1 e c
    unfold wp_X12_chance
    rw [X12_within_iff, wl_1, wl_20, w32_R h2]
    refine dcf (fun _ => ?_) (fun z => absurd e1 z)
    rw [X12_within_iff, wl_0, wl_1, w32_R h3]
    refine dct (fun _ => ?_) (fun z => absurd e2 z)
    refine ⟨fun M' x4 x5 => ∃ k : Nat, x5 = (k : Int) ∧ k ≤ n ∧ x4 = metS T k ∧ FrP M1 M', fun _ _ x5 => ((n : Int) - x5).toNat, ⟨0, rfl, Nat.zero_le _, rfl, FrP_refl M1⟩, ?_⟩
    rintro M2 x4 x5 ⟨k, rfl, hk, rfl, hF⟩
    unfold wp_X12_chance_B28 wp_X12_chance_b48
    dsimp only
    have hI2 := Inv_FrP hD hI1 hF
    have mrk := mr k
    rw [w32n (show n < 2147483648 by omega), w32n (show k < 2147483648 by omega), w32_id (z := metS T k) (by omega) (by omega)]
    refine ⟨fun u => ?_, fun u => ?_⟩
    · have : k = n := by omega
      subst this
      rintro M56 rfl
      obtain ⟨fF, f0⟩ := FrF_flag0 M2
      refine lowest_ok f0 ⟨by omega, by omega⟩ ⟨by omega, by omega⟩ (fun M3 p1 p2 => rpart_ok h3 p1 ⟨by rw [c], Inv_FrF hD hI2 (FrF_trans fF p2)⟩)
    · refine drawnBy_ok hI2 (fun M3 hF3 => ?_)
      obtain ⟨d1, d2, d3, d4, d5, -⟩ := FrP_data hF
      rw [d1, d2, d3, d4, d5, e 190 (by decide), e 191 (by decide), e 192 (by decide), e 193 (by decide), e 189 (by decide), hTi]
      have tr := hTr k
      have es : metS T (k + 1) = if T k = 0 then metS T k + 1 else metS T k := rfl
      rw [w32_id (z := T k) (by omega) (by omega)]
      refine ⟨fun u2 => ⟨⟨k + 1, by omega, by omega, by rw [es, if_neg u2], FrP_trans hF hF3⟩, by omega⟩, fun u2 => ⟨⟨k + 1, by omega, by omega, by rw [es, if_pos (by omega)], FrP_trans hF hF3⟩, by omega⟩⟩
  refine ⟨fun M' x4 x5 => ∃ k : Nat, x5 = (k : Int) ∧ k ≤ n ∧ x4 = metS T k ∧ FrC M M', fun _ _ x5 => ((n : Int) - x5).toNat, ⟨0, rfl, Nat.zero_le _, rfl, FrC_refl M⟩, ?_⟩
  rintro M2 x4 x5 ⟨k, rfl, hk, rfl, hF⟩
  unfold wp_X11_chance_B26 wp_X11_chance_b48
  dsimp only
  have hI2 := Inv_FrC hD hI hF
  have mrk := mr k
  rw [w32n (show n < 2147483648 by omega), w32n (show k < 2147483648 by omega), w32_id (z := metS T k) (by omega) (by omega), rtv_0_11]
  refine ⟨fun u => ?_, fun u => ?_⟩
  · have : k = n := by omega
    subst this
    refine become_ok ⟨by omega, by omega⟩ ⟨by omega, by omega⟩ (fun M3 p1 p2 => part_ok h3 p1 ?_)
    have fr3 : FrW M2 M3 := fun a j q => p2 a j (by omega)
    refine ref _ M3 (Inv_FrW hD hI2 fr3) (fun a ha => funext fun c => ?_) rfl
    rw [fr3 a c (by omega)]
    exact hF a c (by omega) (by omega) (by omega) (by omega) (by omega) (by omega)
  · refine shortBySeed_ok hD hI2 (fun M3 hF3 => ?_)
    obtain ⟨d1, d2, d3, d4, d5, -⟩ := FrC_data hF
    rw [d1, d2, d3, d4, d5, hTi]
    have tr := hTr k
    have es : metS T (k + 1) = if T k = 0 then metS T k + 1 else metS T k := rfl
    rw [vl_0, w64_id (z := T k) (by omega) (by omega)]
    refine ⟨fun u2 => ⟨⟨k + 1, by omega, by omega, by rw [es, if_neg u2], FrC_trans hF hF3⟩, by omega⟩, fun u2 => ⟨⟨k + 1, by omega, by omega, by rw [es, if_pos (by omega)], FrC_trans hF hF3⟩, by omega⟩⟩
