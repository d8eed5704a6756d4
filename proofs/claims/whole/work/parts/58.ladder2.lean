theorem keepF_lad {k j : Nat} (h : keep k j = true) : ¬ (174 ≤ k ∧ k ≤ 176) ∧ k ≠ 204 ∧ k ≠ 205 ∧ ¬ (k = 189 ∧ j = 21) := by
  unfold keep at h
  by_cases h0 : k < 48
  · omega
  · rw [if_neg h0] at h
    by_cases h1 : k = 69
    · omega
    · rw [if_neg h1] at h
      by_cases h2 : k < 87
      · omega
      · rw [if_neg h2] at h
        by_cases h3 : k < 98
        · omega
        · rw [if_neg h3] at h
          by_cases h4 : k < 102
          · omega
          · rw [if_neg h4] at h
            by_cases h5 : k < 174
            · omega
            · rw [if_neg h5] at h
              by_cases h6 : k < 181
              · rw [if_pos h6] at h; cases h
              · rw [if_neg h6] at h
                by_cases h7 : k < 189
                · omega
                · rw [if_neg h7] at h
                  by_cases h8 : k = 189
                  · rw [if_pos h8] at h
                    simp only [Bool.or_eq_true, decide_eq_true_eq] at h
                    omega
                  · rw [if_neg h8] at h
                    by_cases h9 : k < 196
                    · omega
                    · rw [if_neg h9] at h
                      have := of_decide_eq_true h
                      omega
theorem Inv_FrL {DK : Mem → Prop} (hD : KeptH DK) {M M2 : Mem} (hI : Inv DK M) (h : FrL M M2) : Inv DK M2 :=
  Inv_same (KeptH_Kept hD) (fun k j q => h k j (keepF_lad q).2.1 (keepF_lad q).2.2.1 (keepF_lad q).2.2.2) hI
theorem Inv_FrD {DK : Mem → Prop} (hD : KeptH DK) {M M2 : Mem} (hI : Inv DK M) (h : ∀ a c, ¬ (174 ≤ a ∧ a ≤ 176) → M2 a c = M a c) : Inv DK M2 :=
  Inv_same (KeptH_Kept hD) (fun k j q => h k j (keepF_lad q).1) hI
def alS (d r t : F1) (b : Nat) : Int := allS d t b (rateByS d r noY) (rungs d)
def laS (d r t : F1) (b : Nat) : Int := lastS d t b (rateByS d r noY) (rungs d)
def paS (d r t : F1) (b i : Nat) : Int := payAt d t b (rateByS d r noY) i
theorem Inv_BondR {DK : Mem → Prop} {M : Mem} (hI : Inv DK M) : BondR M (M 193) (alS (M 190) (M 191) (M 193)) (M 189 3).toNat := by
  intro b hb
  have hb' : (b : Int) < M 189 3 := Int.lt_toNat.mp hb
  obtain ⟨-, -, w2, w3, w4, w5, w6, w7, w8⟩ := BookR_t hI.1 hb'
  exact ⟨w3, w4, w6, allS_range (Inv_RefOK hI) hb'⟩
theorem Inv_LadOK {DK : Mem → Prop} {M : Mem} (hI : Inv DK M) {rk : Nat → Nat} (hrk : ∀ c, c < (M 189 3).toNat → rk c < (M 189 3).toNat) : LadOK (duS (M 190)) (paS (M 190) (M 191) (M 193)) (laS (M 190) (M 191) (M 193)) rk (M 189 3).toNat (rungs (M 190)) := by
  have hR := Inv_RefOK hI
  obtain ⟨n1, n2⟩ := Inv_n hI
  refine ⟨by omega, hR.2.1, fun i hi => ?_, fun b i hb => payAt_range hR (Int.lt_toNat.mp hb) i, fun b i hb hl => ?_, fun b hb => ?_, hrk⟩
  · have := hR.1 (dayS (M 190) i) (dayS_ok hi).2.1
    exact ⟨this.1, this.2.1⟩
  · unfold laS at hl
    rw [lastS_eq] at hl
    exact lastR_pos hl
  · unfold laS
    rcases lastS_range (d := M 190) (t := M 193) (b := b) (R := rateByS (M 190) (M 191) noY) (rungs (M 190)) with q | ⟨i, q1, q2⟩
    · rw [q]; exact ⟨by decide, by have := Int.natCast_nonneg (rungs (M 190)); generalize (rungs (M 190) : Int) = x at *; omega⟩
    · rw [q2]
      exact ⟨by omega, Int.ofNat_lt.mpr q1⟩
theorem cmp_cls {DK : Mem → Prop} {M : Mem} (hI : Inv DK M) (hS : SceneOK M 27 (M 190) (M 191) (M 192) (M 193) noY (M 189 3)) {k : Int} (hk : 0 ≤ k ∧ k ≤ 3) : ∀ M' : Mem, (∀ a c, a ≠ 175 → M' a c = M a c) → ∀ b c, b < (M 189 3).toNat → c < (M 189 3).toNat → ∀ P : Int → Prop, (∀ r, R32 r → (r < 0 ↔ aheadS (M 193) (alS (M 190) (M 191) (M 193)) k b c = true) → P r) → wp_X5_compare k (b : Int) (c : Int) 1 27 M' P := by
  intro M' hF b c hb hc P hP
  obtain ⟨n1, n2⟩ := Inv_n hI
  refine compare_ok (t := M 193) (al := alS (M 190) (M 191) (M 193)) (n := (M 189 3).toNat) (by omega) (fun e he => Inv_BondR hI e he) (fun e he => ?_) hk hb hc hP
  have he' : (e : Int) < M 189 3 := Int.lt_toNat.mp he
  obtain ⟨e5, w1, -⟩ := BookR_t hI.1 he'
  obtain ⟨-, -, s3, -⟩ := Scene_bond hS he'
  have t1 := w1 1 (by decide)
  have t2 := w1 2 (by decide)
  have t4 := w1 4 (by decide)
  rw [hF _ _ (by omega), hF _ _ (by omega), hF _ _ (by omega), hF _ _ (by omega)]
  rw [show 5 * 1 + e = 5 + e by omega] at t1
  rw [show 5 * 2 + e = 10 + e by omega] at t2
  rw [show 5 * 4 + e = 20 + e by omega] at t4
  exact ⟨t1, t2, t4, s3⟩
theorem FrL_ref {DK : Mem → Prop} (hD : KeptH DK) {M M' : Mem} (hI : Inv DK M) (h : FrL M M') : RefOK M' noY ∧ M' 190 = M 190 ∧ M' 191 = M 191 ∧ M' 193 = M 193 ∧ M' 189 3 = M 189 3 := by
  have row : ∀ k, k ≠ 204 → k ≠ 205 → k ≠ 189 → M' k = M k := fun k a b c => funext fun j => h k j a b (by omega)
  exact ⟨Inv_RefOK (Inv_FrL hD hI h), row 190 (by decide) (by decide) (by decide), row 191 (by decide) (by decide) (by decide), row 193 (by decide) (by decide) (by decide), h 189 3 (by decide) (by decide) (by decide)⟩
theorem cmp_ref {DK : Mem → Prop} (hD : KeptH DK) {M : Mem} (hI : Inv DK M) {k : Int} (hk : 0 ≤ k ∧ k ≤ 3) : ∀ M' : Mem, FrL M M' → ∀ b c, b < (M 189 3).toNat → c < (M 189 3).toNat → ∀ P : Bool → Prop, P (aheadS (M 193) (alS (M 190) (M 191) (M 193)) k b c) → wp_X12_isAhead 189 k (b : Int) (c : Int) M' P := by
  intro M' hF b c hb hc P hP
  obtain ⟨n1, n2⟩ := Inv_n hI
  obtain ⟨r1, r2, r3, r4, r5⟩ := FrL_ref hD hI hF
  refine isAhead_ok (t := M 193) (al := alS (M 190) (M 191) (M 193)) (n := (M 189 3).toNat) (by omega) (fun e he => Inv_BondR hI e he) r4 (fun e he P hP => ?_) hk hb hc hP
  refine allOf_ok r1 (by rw [r5]; exact Int.lt_toNat.mp he) ?_
  rw [r2, r3, r4]
  exact hP
theorem step_11 {DK : Mem → Prop} (hD : KeptH DK) : Step_11 (Inv DK) := by
  intro M hI a1 a2 h1 h2
  obtain ⟨n1, n2⟩ := Inv_n hI
  unfold wp_X11_ranked wp_X11_isRanking
  rw [X11_within_iff, wl_0, wl_3, w32_R h1]
  refine dct (fun e1 => ?_) (fun e1 => ?_)
  case refine_2 =>
    dsimp only
    unfold wp_X12_ranked
    rw [X12_within_iff, wl_0, wl_3, w32_R h1]
    exact dct (fun z => absurd z e1) (fun _ => ⟨rfl, hI⟩)
  rw [rtv_0_0, hasBond_iff n1 n2 h2]
  refine dct (fun e2 => ?_) (fun e2 => ?_)
  case refine_2 =>
    dsimp only
    unfold wp_X12_ranked
    rw [X12_within_iff, wl_0, wl_3, w32_R h1]
    refine dct (fun _ => ?_) (fun z => absurd e1 z)
    rw [isBond_iff rfl n2 h2]
    exact dct (fun z => absurd z e2) (fun _ => ⟨rfl, hI⟩)
  refine look_ok' hI (fun M0 hI0 hS hf he => ?_)
  obtain ⟨m1, m2⟩ := Inv_n hI0
  have e3 : M0 189 3 = M 189 3 := by rw [he 189 (by decide)]
  obtain ⟨b, rfl, hb⟩ := natOfI (n := M0 189 3) (a := a2) (by rw [e3]; exact e2)
  have hbn : b < (M0 189 3).toNat := by omega
  have hn : M0 189 3 = ((M0 189 3).toNat : Int) := (Int.toNat_of_nonneg m2.1).symm
  rw [rtv_0_15, rtv_0_3]
  refine rank_ok (ah := aheadS (M0 193) (alS (M0 190) (M0 191) (M0 193)) a1) (n := (M0 189 3).toNat) (by omega) (by rw [m1]; exact hn) (cmp_cls hI0 hS e1) (fun M1 k1 k2 => ?_)
  have hI1 : Inv DK M1 := Inv_FrD hD hI0 (fun a c h => k2 a c (by omega))
  have row : ∀ k, 189 ≤ k → M1 k = M0 k := fun k hk => funext fun c => k2 k c (by omega)
  rw [rtv_174_o, ixn (show b < 2147483648 by omega), k1 b hbn]
  refine ⟨inbn LN_175 (by omega), ?_⟩
  dsimp only
  unfold wp_X12_ranked
  rw [X12_within_iff, wl_0, wl_3, w32_R h1]
  refine dct (fun _ => ?_) (fun z => absurd e1 z)
  rw [isBond_iff (n := M0 189 3) (by rw [row 189 (by decide)]) m2 h2]
  refine dct (fun _ => ?_) (fun z => absurd ⟨by omega, hb⟩ z)
  have cr := cmp_ref hD hI1 e1
  rw [row 193 (by decide), row 190 (by decide), row 191 (by decide), row 189 (by decide)] at cr
  refine ranks_ok (ah := aheadS (M0 193) (alS (M0 190) (M0 191) (M0 193)) a1) (n := (M0 189 3).toNat) (by omega) (by rw [row 189 (by decide)]; exact hn) (fun M' hF => cr M' (fun a c _ q _ => hF a c q)) (fun M2 q1 q2 => ?_)
  rw [rtv_189_22, ixn (show b < 2147483648 by omega), q1 b hbn]
  exact ⟨inbn LN_205 (by omega), rfl, Inv_FrL hD hI1 (fun a c _ q _ => q2 a c q)⟩
theorem step_18 {DK : Mem → Prop} (hD : KeptH DK) : Step_18 (Inv DK) := by
  intro M hI a1 a2 h1 h2
  obtain ⟨n1, n2⟩ := Inv_n hI
  have bad : ¬ ((0 ≤ a1 ∧ a1 ≤ 3) ∧ ((0 ≤ a2 ∧ a2 < M 189 3) ∨ (10 ≤ a2 ∧ a2 ≤ 11))) → wp_X12_ladder 189 a1 a2 M (fun r2 M2 => w32 (-2) = w32 r2 ∧ Inv DK M2) := by
    intro nz
    unfold wp_X12_ladder
    rw [X12_within_iff, wl_0, wl_3, w32_R h1]
    refine dcf (fun z => ?_) (fun _ => ⟨rfl, hI⟩)
    rw [isBond_iff rfl n2 h2]
    refine dct (fun z2 => absurd ⟨z, Or.inl z2⟩ nz) (fun z2 => ?_)
    rw [X12_within_iff, wl_10, wl_11, w32_R h2]
    exact dct (fun z3 => absurd ⟨z, Or.inr z3⟩ nz) (fun _ => ⟨rfl, hI⟩)
  unfold wp_X11_ladder wp_X11_isRanking
  rw [X11_within_iff, wl_0, wl_3, w32_R h1]
  refine dcf (fun e1 => ?_) (fun e1 => bad (fun z => e1 z.1))
  have b33 : ((0 ≤ a2 ∧ a2 < M 189 3) ∨ (10 ≤ a2 ∧ a2 ≤ 11)) → wp_X11_ladder_b33 0 (fun r M1 => wp_X12_ladder 189 a1 a2 M1 (fun r2 M2 => w32 r = w32 r2 ∧ Inv DK M2)) M a1 a2 := by
    intro e2
    unfold wp_X11_ladder_b33
    refine look_ok' hI (fun M0 hI0 hS hf he => ?_)
    obtain ⟨m1, m2⟩ := Inv_n hI0
    have e3 : M0 189 3 = M 189 3 := by rw [he 189 (by decide)]
    rw [← e3] at e2
    have hn : M0 189 3 = ((M0 189 3).toNat : Int) := (Int.toNat_of_nonneg m2.1).symm
    have hR0 := Inv_RefOK hI0
    have hB0 := hI0.1
    have hT := fun (b : Nat) (hb : (b : Int) < M0 189 3) => BookR_t hB0 hb
    have cc := cmp_cls hI0 hS e1
    have hrk := rankS_range (aheadS (M0 193) (alS (M0 190) (M0 191) (M0 193)) a1) (M0 189 3).toNat
    have hL := Inv_LadOK hI0 hrk
    have hSB := fun (b : Nat) (hb : (b : Int) < M0 189 3) => Scene_bond hS hb
    obtain ⟨s0, s1, -, -⟩ := hS
    have hN5 := hR0.2.1
    have h05 := hR0.2.2.1
    have hMD : ∀ i, i < rungs (M0 190) → M0 194 i = (dayS (M0 190) i : Int) ∧ dayS (M0 190) i ≤ 60 := fun i hi => ⟨hR0.2.2.2.1 i hi, (dayS_ok hi).2.1⟩
    have lt : ∀ b, b < (M0 189 3).toNat → (b : Int) < M0 189 3 := fun b hb => Int.lt_toNat.mp hb
    rw [rtv_0_15, rtv_0_3, rtv_0_0]
    refine rank_ok (ah := aheadS (M0 193) (alS (M0 190) (M0 191) (M0 193)) a1) (n := (M0 189 3).toNat) (by omega) (by rw [m1]; exact hn) cc (fun M1 k1 k2 => ?_)
    refine buy_ok (d := duS (M0 190)) (pa := paS (M0 190) (M0 191) (M0 193)) (la := laS (M0 190) (M0 191) (M0 193)) (pr := fun b => M0 193 (5 + b)) (rk := rankS (aheadS (M0 193) (alS (M0 190) (M0 191) (M0 193)) a1) (M0 189 3).toNat) (n := (M0 189 3).toNat) (N := rungs (M0 190)) hL (fun b hb => (hT b (lt b hb)).2.2.2.1) (by rw [k2 _ _ (by decide)]; exact s0) (by rw [k2 _ _ (by decide), m1]; exact hn) (fun i hi => by rw [k2 _ _ (by decide)]; exact (s1 i hi).2.1) (fun b i hb hi => ?_) (fun b hb => by rw [k2 _ _ (by decide)]; exact (hSB b (lt b hb)).2.2.2) k1 (fun b hb => ?_) (fun M2 q1 q2 q3 q4 => ?_)
    · have : b < 5 := by have := lt b hb; omega
      rw [k2 _ _ (by omega)]
      exact (hSB b (lt b hb)).2.1 i hi
    · have t1 := (hT b (lt b hb)).2.1 1 (by decide)
      have : b < 5 := (hT b (lt b hb)).1
      rw [k2 _ _ (by omega)]
      rw [show 5 * 1 + b = 5 + b by omega] at t1
      exact t1
    have hFD : ∀ a c, ¬ (174 ≤ a ∧ a ≤ 176) → M2 a c = M0 a c := fun a c h => (q4 a c (by omega) (by omega)).trans (k2 a c (by omega))
    have hI2 := Inv_FrD hD hI0 hFD
    have row : ∀ k, 189 ≤ k → M2 k = M0 k := fun k hk => funext fun c => hFD k c (by omega)
    have bI := buyS_inv hL (rungs (M0 190)) (Nat.le_refl _)
    -- the reference
    have ref : ∀ r : Int, (∀ b : Nat, a2 = (b : Int) → (b : Int) < M0 189 3 → r = (buyS (duS (M0 190)) (paS (M0 190) (M0 191) (M0 193)) (laS (M0 190) (M0 191) (M0 193)) (rankS (aheadS (M0 193) (alS (M0 190) (M0 191) (M0 193)) a1) (M0 189 3).toNat) (M0 189 3).toNat (rungs (M0 190)) (rungs (M0 190))).1 b) → (a2 = 10 → r = costS (fun b => M0 193 (5 + b)) (buyS (duS (M0 190)) (paS (M0 190) (M0 191) (M0 193)) (laS (M0 190) (M0 191) (M0 193)) (rankS (aheadS (M0 193) (alS (M0 190) (M0 191) (M0 193)) a1) (M0 189 3).toNat) (M0 189 3).toNat (rungs (M0 190)) (rungs (M0 190))).1 (M0 189 3).toNat) → (a2 = 11 → r = (buyS (duS (M0 190)) (paS (M0 190) (M0 191) (M0 193)) (laS (M0 190) (M0 191) (M0 193)) (rankS (aheadS (M0 193) (alS (M0 190) (M0 191) (M0 193)) a1) (M0 189 3).toNat) (M0 189 3).toNat (rungs (M0 190)) (rungs (M0 190))).2) → wp_X12_ladder 189 a1 a2 M2 (fun r2 M2 => w32 r = w32 r2 ∧ Inv DK M2) := by
      intro r c1 c2 c3
      have cr := cmp_ref hD hI2 e1
      rw [row 193 (by decide), row 190 (by decide), row 191 (by decide), row 189 (by decide)] at cr
      have fr : ∀ M', FrL M2 M' → RefOK M' noY ∧ M' 190 = M0 190 ∧ M' 191 = M0 191 ∧ M' 193 = M0 193 ∧ M' 189 3 = M0 189 3 := fun M' hF => by
        have := FrL_ref hD hI2 hF
        rw [row 190 (by decide), row 191 (by decide), row 193 (by decide), row 189 (by decide)] at this
        exact this
      have b31 : wp_X12_ladder_b31 189 (fun r2 M2 => w32 r = w32 r2 ∧ Inv DK M2) M2 a1 a2 := by
        unfold wp_X12_ladder_b31
        refine climbs_ok (d := duS (M0 190)) (pa := paS (M0 190) (M0 191) (M0 193)) (la := laS (M0 190) (M0 191) (M0 193)) (ah := aheadS (M0 193) (alS (M0 190) (M0 191) (M0 193)) a1) (n := (M0 189 3).toNat) (N := rungs (M0 190)) hL (by rw [row 189 (by decide)]; exact h05) (by rw [row 189 (by decide)]; exact hn) (D := dayS (M0 190)) (fun i hi => by rw [row 194 (by decide)]; exact hMD i hi) (fun i hi => by rw [row 190 (by decide)]; rfl) cr (fun M' hF b i hb hi P hP => ?_) (fun M' hF b hb P hP => ?_) (fun M3 x1 x2 x3 x4 => ?_)
        · obtain ⟨y1, y2, y3, y4, y5⟩ := fr M' hF
          refine paysAtRung_ok y1 (by rw [y5]; exact lt b hb) (by rw [y2]; exact hi) ?_
          rw [y2, y3, y4]
          exact hP
        · obtain ⟨y1, y2, y3, y4, y5⟩ := fr M' hF
          refine lastOf_ok y1 (by rw [y5]; exact lt b hb) ?_
          rw [y2, y3, y4]
          exact hP
        have hI3 := Inv_FrL hD hI2 x4
        have n3 : M3 189 3 = ((M0 189 3).toNat : Int) := by rw [x4 189 3 (by decide) (by decide) (by decide), row 189 (by decide)]; exact hn
        have row3 : M3 193 = M0 193 := by
          rw [← row 193 (by decide)]
          exact funext fun c => x4 193 c (by decide) (by decide) (by omega)
        generalize buyS (duS (M0 190)) (paS (M0 190) (M0 191) (M0 193)) (laS (M0 190) (M0 191) (M0 193)) (rankS (aheadS (M0 193) (alS (M0 190) (M0 191) (M0 193)) a1) (M0 189 3).toNat) (M0 189 3).toNat (rungs (M0 190)) (rungs (M0 190)) = BS at *
        rw [wl_10, wl_11, w32_R h2]
        refine ⟨fun u => ⟨fun u2 => ?_, fun u2 => ?_⟩, fun u => ?_⟩
        · have c2 := c2 (by omega)
          refine ⟨fun y3 y4 => ∃ c : Nat, y4 = (c : Int) ∧ c ≤ (M0 189 3).toNat ∧ y3 = costS (fun b => M0 193 (5 + b)) BS.1 c, fun _ y4 => (((M0 189 3).toNat : Int) - y4).toNat, ⟨0, rfl, Nat.zero_le _, rfl⟩, ?_⟩
          rintro y3 y4 ⟨c, rfl, hc, rfl⟩
          unfold wp_X12_ladder_B65
          dsimp only
          rw [n3, w32n (show (M0 189 3).toNat < 2147483648 by omega), w32n (show c < 2147483648 by omega), rtv_189_20, ixn (show c < 2147483648 by omega)]
          refine ⟨fun u3 => ?_, fun u3 => ⟨inbn LN_204 (by omega), of_ok (w := 1) rfl (by omega) (by decide) ?_⟩⟩
          · rw [c2, show c = (M0 189 3).toNat by omega]
            exact ⟨rfl, hI3⟩
          · rw [x2 c (by omega), row3, show 5 * 1 + c = 5 + c by omega]
            rintro v91 rfl
            exact ⟨⟨c + 1, by omega, by omega, rfl⟩, by omega⟩
        · rw [x3, c3 (by omega)]
          exact ⟨rfl, hI3⟩
        · have hb2 : 0 ≤ a2 ∧ a2 < M0 189 3 := by omega
          obtain ⟨b, rfl, hb⟩ := natOfI hb2
          rw [rtv_189_20, ixn (show b < 2147483648 by omega), x2 b (by omega), c1 b rfl hb]
          exact ⟨inbn LN_204 (by omega), rfl, hI3⟩
      unfold wp_X12_ladder
      rw [X12_within_iff, wl_0, wl_3, w32_R h1]
      refine dcf (fun _ => ?_) (fun z => absurd e1 z)
      rw [isBond_iff (n := M0 189 3) (by rw [row 189 (by decide)]) m2 h2]
      refine dct (fun _ => b31) (fun z => ?_)
      rw [X12_within_iff, wl_10, wl_11, w32_R h2]
      exact dct (fun _ => b31) (fun z2 => absurd e2 (by omega))
    generalize buyS (duS (M0 190)) (paS (M0 190) (M0 191) (M0 193)) (laS (M0 190) (M0 191) (M0 193)) (rankS (aheadS (M0 193) (alS (M0 190) (M0 191) (M0 193)) a1) (M0 189 3).toNat) (M0 189 3).toNat (rungs (M0 190)) (rungs (M0 190)) = BS at *
    rw [wl_10, wl_11, w32_R h2]
    refine ⟨fun u => ⟨fun u2 => ?_, fun u2 => ?_⟩, fun u => ?_⟩
    · have hb2 : 0 ≤ a2 ∧ a2 < M0 189 3 := by omega
      obtain ⟨b, rfl, hb⟩ := natOfI hb2
      rw [rtv_174_b, ixn (show b < 2147483648 by omega), q1 b (by omega)]
      exact ⟨inbn LN_176 (by omega), ref _ (fun c hc _ => by rw [show c = b by omega]) (fun q => absurd q u) (fun q => absurd q u2)⟩
    · rw [q2]
      exact ref _ (fun c hc hc2 => absurd hc (by omega)) (fun q => absurd q u) (fun _ => rfl)
    · rw [q3]
      exact ref _ (fun c hc hc2 => absurd hc (by omega)) (fun _ => rfl) (fun q => absurd q (by omega))
  rw [rtv_0_0, hasBond_iff n1 n2 h2]
  refine dct (fun e2 => b33 (Or.inl e2)) (fun e2 => ?_)
  rw [wl_10, wl_11, w32_R h2]
  refine ⟨fun u => b33 (Or.inr (by omega)), fun u => ⟨fun u2 => b33 (Or.inr (by omega)), fun u2 => bad (fun z => ?_)⟩⟩
  rcases z.2 with q | q
  · exact e2 q
  · omega
