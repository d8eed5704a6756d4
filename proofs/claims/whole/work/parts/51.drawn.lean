/-! rates drawn; the worst rung -/
theorem by_congr {d r y y' : F1} (h : ∀ i, i < rungs d → y' i = y i) : rateByS d r y' = rateByS d r y := by
  funext k
  unfold rateByS
  by_cases q : cnt d (k - 1) < rungs d
  · rw [h _ q]
  · rw [if_neg (fun z => q z.1), if_neg (fun z => q z.1)]
theorem allSh_congr {d r l t y y' hv : F1} {n : Int} (h : ∀ i, i < rungs d → y' i = y i) : allSh d r l t y' hv n = allSh d r l t y hv n := by
  unfold allSh PD rrS
  rw [by_congr h]
theorem allSh_range {d r l t y hv : F1} {n : Int} (hg : Rng d r l t n) (hy : yR y) (hh : ∀ b : Nat, (b : Int) < n → 0 ≤ hv b ∧ hv b ≤ 99) : 0 ≤ allSh d r l t y hv n ∧ allSh d r l t y hv n ≤ 495 := by
  have hP := Rng_PlayOK hg hy hh
  have hN := hg.2.1
  have key := sumN_range (f := shortA (rrS d r y) (PD d r t y hv n) (duS d) (lmS d l) (rungs d)) (B := 99) (n := rungs d) (fun i hi => by
    obtain ⟨p1, p2, p3, p4⟩ := hP.2 i hi
    have hh2 := hasS_range hP i (Nat.le_of_lt hi)
    have hg2 := grwS_range hh2.1 p1
    have e : restA (rrS d r y) (PD d r t y hv n) (duS d) (lmS d l) (rungs d) i = grwS (hasS (rrS d r y) (pdH hv d t (rateByS d r y) n.toNat) (duS d) (lmS d l) (rungs d) i) (rrS d r y i) + pdH hv d t (rateByS d r y) n.toNat i - duS d i := rfl
    unfold shortA
    rw [e]
    generalize grwS (hasS (rrS d r y) (pdH hv d t (rateByS d r y) n.toNat) (duS d) (lmS d l) (rungs d) i) (rrS d r y i) = G at *
    generalize hasS (rrS d r y) (pdH hv d t (rateByS d r y) n.toNat) (duS d) (lmS d l) (rungs d) i = H at *
    generalize pdH hv d t (rateByS d r y) n.toNat i = X at *
    generalize duS d i = Y at *
    clear e hP
    unfold mx0
    split <;> omega)
  unfold allSh
  generalize rungs d = N at *
  omega
def zS (seed : Int) : Nat → Int
  | 0 => seed
  | i + 1 => zS seed i * 1103515245 + 12345
def valZ (z : Int) : Int := (w32 (z % 4294967296 / 512)).tmod (w32 4)
def yS (seed : Int) : F1 := fun i => valZ (zS seed (i + 1))
theorem valZ_r (z : Int) : 0 ≤ valZ z ∧ valZ z ≤ 3 := by
  unfold valZ
  rw [wl_4, w32_id (by omega) (by omega), Int.tmod_eq_emod_of_nonneg (by omega)]
  omega
theorem yS_r (seed : Int) : yR (yS seed) := fun i _ => by
  have := valZ_r (zS seed (i + 1))
  unfold yS
  omega
theorem held_r {DK : Mem → Prop} {M : Mem} (hI : Inv DK M) : ∀ b : Nat, (b : Int) < M 189 3 → 0 ≤ heldF (M 193) b ∧ heldF (M 193) b ≤ 99 := fun b hb => (BookR_t hI.1 hb).2.2.2.2.2.2.2.2
theorem shortBySeed_ok {DK : Mem → Prop} (hD : KeptH DK) {M : Mem} (hI : Inv DK M) {seed : Int} {Q : Int → Mem → Prop} (h : ∀ M' : Mem, FrC M M' → Q (allSh (M 190) (M 191) (M 192) (M 193) (yS seed) (heldF (M 193)) (M 189 3)) M') : wp_X11_shortBySeed 0 seed M Q := by
  refine ⟨fun M' x2 x3 => ∃ i : Nat, x3 = (i : Int) ∧ i ≤ 5 ∧ x2 = zS seed i ∧ (∀ c, c < i → M' 70 c = yS seed c) ∧ FrC M M', fun _ _ x3 => (5 - x3).toNat, ⟨0, rfl, by omega, rfl, fun c hc => by omega, FrC_refl M⟩, ?_⟩
  rintro M1 x2 x3 ⟨i, rfl, hi, rfl, f1, f2⟩
  unfold wp_X11_shortBySeed_B4
  dsimp only
  rw [wl_5, w32n (show i < 2147483648 by omega), ixn (show i < 2147483648 by omega), rtv_0_7, rtv_0_16]
  refine ⟨fun u => ?_, fun u => ?_⟩
  · have : i = 5 := by omega
    subst this
    refine playBy_ok (y := yS seed) (Inv_FrC hD hI f2) (fun c hc => ⟨f1 c hc, yS_r seed c hc⟩) (fun M2 p1 p2 => ?_)
    obtain ⟨e1, e2, e3, e4, e5, -⟩ := FrC_data f2
    rw [e1, e2, e3, e4, e5] at p1
    rw [p1.2.1]
    exact h M2 (FrC_trans f2 (fun k j a b c d e f => p2 k j a c d e f))
  · rintro v18 rfl
    refine ⟨by decide, inbn LN_70 (by omega), ?_⟩
    rintro M30 rfl
    refine ⟨⟨i + 1, by omega, by omega, rfl, fun c hc => ?_, fun k j a b c d e f => ?_⟩, by omega⟩
    · by_cases q : c = i
      · subst q; rw [st2_s]; rfl
      · rw [st2_n _ _ (by omega)]; exact f1 c (by omega)
    · rw [st2_off _ _ b]; exact f2 k j a b c d e f
theorem FrP_refl (M : Mem) : FrP M M := fun _ _ _ _ _ => rfl
theorem FrP_trans {M M2 M3 : Mem} (h : FrP M M2) (h2 : FrP M2 M3) : FrP M M3 := fun k j a b c => (h2 k j a b c).trans (h k j a b c)
theorem FrP_data {M M' : Mem} (h : FrP M M') : M' 190 = M 190 ∧ M' 191 = M 191 ∧ M' 192 = M 192 ∧ M' 193 = M 193 ∧ M' 189 3 = M 189 3 ∧ M' 189 5 = M 189 5 ∧ M' 209 = M 209 ∧ M' 210 = M 210 ∧ M' 211 = M 211 := by
  have row : ∀ k, k ≠ 206 → k ≠ 207 → k ≠ 189 → M' k = M k := fun k a b c => funext fun j => h k j a b (by omega)
  exact ⟨row 190 (by decide) (by decide) (by decide), row 191 (by decide) (by decide) (by decide), row 192 (by decide) (by decide) (by decide), row 193 (by decide) (by decide) (by decide), h 189 3 (by decide) (by decide) (by decide), h 189 5 (by decide) (by decide) (by decide), row 209 (by decide) (by decide) (by decide), row 210 (by decide) (by decide) (by decide), row 211 (by decide) (by decide) (by decide)⟩
/-- rates told for a while, by the reference -/
theorem RefOK_by195 {M M1 : Mem} {y y' : F1} (hR : RefOK M y) (e1 : ∀ k j, ¬ (k = 195 ∧ j < 5) → M1 k j = M k j) (e2 : ∀ i, i < 5 → M1 195 i = y' i ∧ -1 ≤ y' i ∧ y' i ≤ 9) : RefOK M1 y' ∧ M1 190 = M 190 ∧ M1 191 = M 191 ∧ M1 192 = M 192 ∧ M1 193 = M 193 ∧ M1 189 = M 189 := by
  have row : ∀ k, k ≠ 195 → M1 k = M k := fun k hk => funext fun j => e1 k j (fun z => hk z.1)
  refine ⟨?_, row 190 (by decide), row 191 (by decide), row 192 (by decide), row 193 (by decide), row 189 (by decide)⟩
  unfold RefOK at *
  rw [row 190 (by decide), row 191 (by decide), row 192 (by decide), row 193 (by decide), row 194 (by decide), row 189 (by decide)]
  exact ⟨hR.1, hR.2.1, hR.2.2.1, hR.2.2.2.1, e2, hR.2.2.2.2.2⟩
theorem drawnBy_ok {DK : Mem → Prop} {M : Mem} (hI : Inv DK M) {seed : Int} {Q : Int → Mem → Prop} (h : ∀ M' : Mem, FrP M M' → Q (allSh (M 190) (M 191) (M 192) (M 193) (yS seed) (heldF (M 193)) (M 189 3)) M') : wp_X12_drawnBy 189 seed M Q := by
  have hR := Inv_RefOK hI
  have hN5 := hR.2.1
  have h05 := hR.2.2.1
  have hby := hI.2.2.1.2.2
  have cg := fun (y' : F1) (hy : ∀ i, i < rungs (M 190) → y' i = yS seed i) => allSh_congr (r := M 191) (l := M 192) (t := M 193) (hv := heldF (M 193)) (n := M 189 3) hy
  refine ⟨fun M' x2 x3 => ∃ i : Nat, x3 = (i : Int) ∧ i ≤ rungs (M 190) ∧ x2 = zS seed i ∧ (∀ c, c < i → M' 195 c = yS seed c) ∧ (∀ c, i ≤ c → c < 5 → M' 195 c = -1) ∧ (∀ k j, ¬ (k = 195 ∧ j < 5) → M' k j = M k j), fun _ _ x3 => (5 - x3).toNat, ⟨0, rfl, Nat.zero_le _, rfl, fun c hc => by omega, fun c _ hc => hby c hc, fun _ _ _ => rfl⟩, ?_⟩
  rintro M1 x2 x3 ⟨i, rfl, hi, rfl, f1, f2, f3⟩
  unfold wp_X12_drawnBy_B4
  dsimp only
  generalize hN : rungs (M 190) = N at *
  rw [f3 189 5 (by omega), h05, w32n (show N < 2147483648 by omega), w32n (show i < 2147483648 by omega), ixn (show i < 2147483648 by omega), rtv_189_7]
  refine ⟨fun u => ?_, fun u => ?_⟩
  · have : i = N := by omega
    subst this
    obtain ⟨hR1, e1, e2, e3, e4, e5⟩ := RefOK_by195 (y' := fun c => if c < i then yS seed c else -1) hR f3 (fun c hc => by
      by_cases q : c < i
      · rw [if_pos q]; exact ⟨f1 c q, yS_r seed c hc⟩
      · rw [if_neg q]; exact ⟨f2 c (by omega) hc, by decide, by decide⟩)
    refine plays_ok' hR1 (fun M2 p1 p2 => clears_ok (fun M3 q1 q2 => ?_))
    rw [e1, e2, e3, e4, e5, cg _ (fun c hc => by rw [if_pos hc])]
    refine h M3 (fun k j z1 z2 z3 => ?_)
    by_cases q : k = 195 ∧ j < 5
    · obtain ⟨rfl, hj⟩ := q
      rw [q1 j hj, hby j hj]
    · rw [q2 k j q, p2 k j z1 z2 z3, f3 k j q]
  · rintro v21 rfl
    refine ⟨by decide, inbn LN_195 (by omega), ?_⟩
    rintro M33 rfl
    refine ⟨⟨i + 1, by omega, by omega, rfl, fun c hc => ?_, fun c hc hc2 => ?_, fun k j hk => ?_⟩, by omega⟩
    · by_cases q : c = i
      · subst q; rw [st2_s]; rfl
      · rw [st2_n _ _ (by omega)]; exact f1 c (by omega)
    · rw [st2_n _ _ (by omega)]; exact f2 c (by omega) hc2
    · rw [st2_n _ _ (by omega)]; exact f3 k j hk
theorem step_21 {DK : Mem → Prop} (hD : KeptH DK) : Step_21 (Inv DK) := by
  intro M hI a1 h1
  unfold wp_X11_drawn
  refine shortBySeed_ok hD hI (fun M2 hF => ?_)
  have hI2 := Inv_FrC hD hI hF
  obtain ⟨e1, e2, e3, e4, e5, -⟩ := FrC_data hF
  unfold wp_X12_drawn
  refine drawnBy_ok hI2 (fun M3 hF3 => ⟨?_, Inv_FrP hD hI2 hF3⟩)
  rw [e1, e2, e3, e4, e5]
def wstS (T : Nat → Int) : Nat → Int × Int
  | 0 => (-1, 0)
  | i + 1 => if (wstS T i).1 = -1 ∨ (wstS T i).2 < T i then ((i : Int), T i) else wstS T i
theorem wstS_range {T : Nat → Int} (hT : ∀ i, 0 ≤ T i ∧ T i ≤ 495) : ∀ i, -1 ≤ (wstS T i).1 ∧ (wstS T i).1 < (i : Int) ∧ 0 ≤ (wstS T i).2 ∧ (wstS T i).2 ≤ 495
  | 0 => by unfold wstS; omega
  | i + 1 => by
    have ih := wstS_range hT i
    have := hT i
    unfold wstS
    split
    · dsimp only; omega
    · omega
theorem yW_r (i : Nat) : yR (updI noY i 9) := fun c _ => by
  unfold updI noY
  split <;> omega
theorem step_20 {DK : Mem → Prop} (hD : KeptH DK) : Step_20 (Inv DK) := by
  intro M hI a1 h1
  unfold wp_X11_worst
  rw [X11_within_iff, wl_0, wl_1, w32_R h1]
  refine dct (fun e => ?_) (fun e => ?_)
  case refine_2 =>
    dsimp only
    unfold wp_X12_worst
    rw [X12_within_iff, wl_0, wl_1, w32_R h1]
    exact dct (fun z => absurd z e) (fun _ => ⟨rfl, hI⟩)
  refine look_ok' hI (fun M0 hI0 hS hf he => ?_)
  have hR0 := Inv_RefOK hI0
  have hN5 := hR0.2.1
  have h05 := hR0.2.2.1
  have h27 := hS.1
  obtain ⟨T, hT⟩ : ∃ T : Nat → Int, T = fun i => allSh (M0 190) (M0 191) (M0 192) (M0 193) (updI noY i 9) (heldF (M0 193)) (M0 189 3) := ⟨_, rfl⟩
  have hTr : ∀ i, 0 ≤ T i ∧ T i ≤ 495 := fun i => by
    rw [hT]
    exact allSh_range (Inv_Rng hI0) (yW_r i) (held_r hI0)
  have hTi : ∀ i, allSh (M0 190) (M0 191) (M0 192) (M0 193) (updI noY i 9) (heldF (M0 193)) (M0 189 3) = T i := fun i => by rw [hT]
  clear hT
  generalize hN : rungs (M0 190) = N at *
  -- the reference, from a like state
  have ref : ∀ M1 : Mem, Inv DK M1 → (∀ k, 189 ≤ k → M1 k = M0 k) → wp_X12_worst 189 a1 M1 (fun r2 M2 => w32 (if a1 = 0 then (wstS T N).1 else (wstS T N).2) = w32 r2 ∧ Inv DK M2) := by
    intro M1 hI1 e1
    have hby := hI1.2.2.1.2.2
    have hR1 := Inv_RefOK hI1
    unfold wp_X12_worst
    rw [X12_within_iff, wl_0, wl_1, w32_R h1]
    refine dct (fun _ => ?_) (fun z => absurd e z)
    refine ⟨fun M' x2 x3 x5 => ∃ i : Nat, x5 = (i : Int) ∧ i ≤ N ∧ x2 = (wstS T i).1 ∧ x3 = (wstS T i).2 ∧ FrP M1 M', fun _ _ _ x5 => ((N : Int) - x5).toNat, ⟨0, rfl, Nat.zero_le _, rfl, rfl, FrP_refl M1⟩, ?_⟩
    rintro M2 x2 x3 x5 ⟨i, rfl, hi, rfl, rfl, hF⟩
    unfold wp_X12_worst_B19 wp_X12_worst_b66 wp_X12_worst_b72
    dsimp only
    obtain ⟨d1, d2, d3, d4, d5, d6, -⟩ := FrP_data hF
    have hI2 := Inv_FrP hD hI1 hF
    have wr := wstS_range hTr i
    have eW : wstS T (i + 1) = if (wstS T i).1 = -1 ∨ (wstS T i).2 < T i then ((i : Int), T i) else wstS T i := rfl
    rw [d6, e1 189 (by decide), h05, wm_1, w32_R h1, w32n (show N < 2147483648 by omega), w32n (show i < 2147483648 by omega), w32_id (z := (wstS T i).1) (by omega) (by omega), w64_id (z := (wstS T i).2) (by omega) (by omega), rtv_189_7, ixn (show i < 2147483648 by omega)]
    refine ⟨fun u => ?_, fun u => ⟨inbn LN_195 (by omega), ?_⟩⟩
    · have : i = N := by omega
      subst this
      refine ⟨fun u2 => ⟨by rw [if_neg u2], hI2⟩, fun u2 => ⟨by rw [if_pos (by omega), w32_id (by omega) (by omega)], hI2⟩⟩
    · rintro M36 rfl
      have hby2 := hI2.2.2.1.2.2
      obtain ⟨hR3, g1, g2, g3, g4, g5⟩ := RefOK_by195 (M1 := st2 M2 195 i 9) (y' := updI noY i 9) (Inv_RefOK hI2) (fun k j hk => st2_n _ _ (by omega)) (fun c hc => by
        refine ⟨?_, yW_r i c hc⟩
        unfold updI noY
        by_cases q : c = i
        · subst q; rw [st2_s, if_pos rfl]
        · rw [st2_n _ _ (by omega), if_neg q]; exact hby2 c hc)
      refine plays_ok' hR3 (fun M38 p1 p2 => ?_)
      rw [g1, g2, g3, g4, g5, d1, d2, d3, d4, d5, e1 190 (by decide), e1 191 (by decide), e1 192 (by decide), e1 193 (by decide), e1 189 (by decide), hTi]
      refine ⟨inbn LN_195 (by omega), ?_⟩
      rintro M50 rfl
      have hF2 : FrP M1 (st2 M38 195 i (-1)) := fun k j z1 z2 z3 => by
        by_cases q : k = 195 ∧ j = i
        · obtain ⟨rfl, rfl⟩ := q
          rw [st2_s, hby j (by omega)]
        · rw [st2_n _ _ q, p2 k j z1 z2 z3, st2_n _ _ q]
          exact hF k j z1 z2 z3
      have tr := hTr i
      rw [w64_id (z := T i) (by omega) (by omega)]
      refine ⟨fun u2 => ⟨⟨i + 1, by omega, by omega, ?_, ?_, hF2⟩, by omega⟩, fun u2 => ⟨fun u3 => ⟨⟨i + 1, by omega, by omega, ?_, ?_, hF2⟩, by omega⟩, fun u3 => ⟨⟨i + 1, by omega, by omega, ?_, ?_, hF2⟩, by omega⟩⟩⟩
      · rw [eW, if_pos (Or.inl u2)]
      · rw [eW, if_pos (Or.inl u2)]
      · rw [eW, if_pos (Or.inr u3)]
      · rw [eW, if_pos (Or.inr u3)]
      · rw [eW, if_neg (by omega)]
      · rw [eW, if_neg (by omega)]
  refine ⟨fun M' x2 x3 x5 => ∃ i : Nat, x5 = (i : Int) ∧ i ≤ N ∧ x2 = (wstS T i).1 ∧ x3 = (wstS T i).2 ∧ FrC M0 M', fun _ _ _ x5 => ((N : Int) - x5).toNat, ⟨0, rfl, Nat.zero_le _, rfl, rfl, FrC_refl M0⟩, ?_⟩
  rintro M2 x2 x3 x5 ⟨i, rfl, hi, rfl, rfl, hF⟩
  unfold wp_X11_worst_B23 wp_X11_worst_b77 wp_X11_worst_b88
  dsimp only
  have hI2 := Inv_FrC hD hI0 hF
  have wr := wstS_range hTr i
  have eW : wstS T (i + 1) = if (wstS T i).1 = -1 ∨ (wstS T i).2 < T i then ((i : Int), T i) else wstS T i := rfl
  have he2 : ∀ M2 : Mem, FrC M0 M2 → ∀ k, 189 ≤ k → M2 k = M0 k := fun M2 h k hk => funext fun c => h k c (by omega) (by omega) (by omega) (by omega) (by omega) (by omega)
  rw [rtv_0_3, rtv_0_7, rtv_0_16, hF 27 0 (by omega) (by omega) (by omega) (by omega) (by omega) (by omega), h27, wm_1, w32_R h1, w32n (show N < 2147483648 by omega), w32n (show i < 2147483648 by omega), w32_id (z := (wstS T i).1) (by omega) (by omega), w64_id (z := (wstS T i).2) (by omega) (by omega), ixn (show i < 2147483648 by omega)]
  refine ⟨fun u => ?_, fun u => ?_⟩
  · have : i = N := by omega
    subst this
    have rr := ref M2 hI2 (he2 M2 hF)
    refine ⟨fun u2 => ?_, fun u2 => ?_⟩
    · rw [if_neg u2] at rr; exact rr
    · rw [if_pos (by omega), w32_id (z := (wstS T i).1) (by omega) (by omega)] at rr; exact rr
  · refine fill_ok LN_70 (fun M3 f1 f2 => ⟨inbn LN_70 (by omega), ?_⟩)
    rintro M51 rfl
    have hF3 : FrC M0 (st2 M3 70 i 9) := fun k j a b c d e f => by rw [st2_off _ _ b, f2 k j (by omega)]; exact hF k j a b c d e f
    obtain ⟨d1, d2, d3, d4, d5, -⟩ := FrC_data hF3
    refine playBy_ok (y := updI noY i 9) (Inv_FrC hD hI0 hF3) (fun c hc => ⟨?_, yW_r i c hc⟩) (fun M4 p1 p2 => ?_)
    · unfold updI noY
      by_cases q : c = i
      · subst q; rw [st2_s, if_pos rfl]
      · rw [st2_n _ _ (by omega), if_neg q]; exact f1 c hc
    rw [d1, d2, d3, d4, d5] at p1
    have q1 := p1.2.1
    rw [hTi] at q1
    have hF4 : FrC M0 M4 := FrC_trans hF3 (fun k j a b c d e f => p2 k j a c d e f)
    have tr := hTr i
    rw [q1, w64_id (z := T i) (by omega) (by omega)]
    refine ⟨fun u2 => ⟨⟨i + 1, by omega, by omega, ?_, ?_, hF4⟩, by omega⟩, fun u2 => ⟨fun u3 => ⟨⟨i + 1, by omega, by omega, ?_, ?_, hF4⟩, by omega⟩, fun u3 => ⟨⟨i + 1, by omega, by omega, ?_, ?_, hF4⟩, by omega⟩⟩⟩
    · rw [eW, if_pos (Or.inl u2)]
    · rw [eW, if_pos (Or.inl u2)]
    · rw [eW, if_neg (by omega)]
    · rw [eW, if_neg (by omega)]
    · rw [eW, if_pos (Or.inr (by omega))]
    · rw [eW, if_pos (Or.inr (by omega))]
