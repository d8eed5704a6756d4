/-! the reference plays, day by day -/
theorem atR_mul (C : Nat → Nat) (h : Int) (p : F1) (i : Nat) : ∀ m, atR C (fun k => h * p k) m i = h * atR C p m i
  | 0 => (Int.mul_zero h).symm
  | m + 1 => by
    have ih := atR_mul C h p i m
    have e1 : atR C (fun k => h * p k) (m + 1) i = atR C (fun k => h * p k) m i + if C m = i then h * p (m + 1) else 0 := rfl
    have e2 : atR C p (m + 1) i = atR C p m i + if C m = i then p (m + 1) else 0 := rfl
    rw [e1, e2, ih, Int.mul_add]
    split
    · rfl
    · rw [Int.mul_zero]
theorem atR_add (C : Nat → Nat) (p q : F1) (i : Nat) : ∀ m, atR C (fun k => p k + q k) m i = atR C p m i + atR C q m i
  | 0 => rfl
  | m + 1 => by
    have ih := atR_add C p q i m
    have e1 : atR C (fun k => p k + q k) (m + 1) i = atR C (fun k => p k + q k) m i + if C m = i then p (m + 1) + q (m + 1) else 0 := rfl
    have e2 : atR C p (m + 1) i = atR C p m i + if C m = i then p (m + 1) else 0 := rfl
    have e3 : atR C q (m + 1) i = atR C q m i + if C m = i then q (m + 1) else 0 := rfl
    rw [e1, e2, e3, ih]
    split <;> omega
theorem atR_sumN (C : Nat → Nat) (h : Nat → Int) (p : Nat → F1) (m i : Nat) : ∀ n, atR C (fun k => sumN (fun b => h b * p b k) n) m i = sumN (fun b => h b * atR C (p b) m i) n
  | 0 => sumP_zero fun k _ _ => by
    show (if C (k - 1) = i then (0 : Int) else 0) = 0
    split <;> rfl
  | n + 1 => by
    have ih := atR_sumN C h p m i n
    have e1 := atR_add C (fun k => sumN (fun b => h b * p b k) n) (fun k => h n * p n k) i m
    have e2 := atR_mul C (h n) (p n) i m
    show atR C (fun k => sumN (fun b => h b * p b k) n + h n * p n k) m i = sumN (fun b => h b * atR C (p b) m i) n + h n * atR C (p n) m i
    rw [e1, e2, ih]
theorem sumN_range {f : Nat → Int} {B : Int} : ∀ {n : Nat}, (∀ i, i < n → 0 ≤ f i ∧ f i ≤ B) → 0 ≤ sumN f n ∧ sumN f n ≤ B * (n : Int)
  | 0, _ => by unfold sumN; omega
  | n + 1, h => by
    have ih := sumN_range (n := n) (fun i hi => h i (by omega))
    have := h n (by omega)
    unfold sumN
    rw [show ((n + 1 : Nat) : Int) = (n : Int) + 1 by omega, Int.mul_add, Int.mul_one]
    omega
theorem max0_ok {z : Int} {M : Mem} {Q : Int → Prop} (h1 : -9000000000000000000 ≤ z) (h2 : z ≤ 9000000000000000000) (h : Q (mx0 z)) : wp_J9_max_f86c9 0 z M Q := by
  unfold wp_J9_max_f86c9
  rw [vl_0, w64_id (z := z) (by omega) (by omega)]
  unfold mx0 at h
  refine ⟨fun u => ?_, fun u => ?_⟩
  · rw [if_neg (by omega)] at h; exact h
  · by_cases q : z < 0
    · rw [if_pos q] at h; exact h
    · rw [if_neg q] at h
      rw [show z = 0 by omega] at h
      exact h
def FrP (M M' : Mem) : Prop := ∀ k j, k ≠ 206 → k ≠ 207 → ¬ (k = 189 ∧ 25 ≤ j ∧ j ≤ 27) → M' k j = M k j
theorem plays_gen {M : Mem} {Q : Int → Mem → Prop} {N n : Nat} {C D : Nat → Nat} {p : Nat → F1} {R h : F1} (h0 : M 189 5 = (N : Int)) (hN : N ≤ 5) (h3 : M 189 3 = (n : Int)) (hn : n ≤ 5) (hD : ∀ i, i < N → M 194 i = (D i : Int) ∧ 1 ≤ D i ∧ D i ≤ 60) (hle : ∀ i k, i < N → 1 ≤ k → (k ≤ D i ↔ C (k - 1) ≤ i)) (hmon : ∀ i j, i < j → j < N → D i < D j) (hh : ∀ b, b < n → M 193 (30 + b) = h b ∧ 0 ≤ h b ∧ h b ≤ 99) (hpr : ∀ b k, b < n → 1 ≤ k → k ≤ 60 → 0 ≤ p b k ∧ p b k ≤ 300) (hd : ∀ k, k ≤ 60 → 0 ≤ M 190 k ∧ M 190 k ≤ 99 ∧ 0 ≤ M 192 k ∧ M 192 k ≤ 100)
    (hpay : ∀ M', FrP M M' → ∀ b k, b < n → 1 ≤ k → k ≤ 60 → ∀ P : Int → Prop, P (p b k) → wp_X12_paysOn 189 (b : Int) (k : Int) M' P)
    (hby : ∀ M', FrP M M' → ∀ k, 1 ≤ k → k ≤ 60 → ∀ P : Int → Prop, P (R k) → wp_X12_rateBy 189 (k : Int) M' P)
    (hR : ∀ k, k ≤ 60 → 0 ≤ R k ∧ R k ≤ 9)
    {rr pd du lm : F1} (hP : PlayOK rr pd du lm N) (e1 : ∀ i, i < N → rr i = R (D i) ∧ pd i = sumN (fun b => h b * atR C (p b) 60 i) n ∧ du i = M 190 (D i) ∧ lm i = M 192 (D i) - 1)
    (hq : ∀ M' : Mem, (∀ i, i < N → M' 206 i = hasS rr pd du lm N (i + 1) ∧ M' 207 i = shortA rr pd du lm N i) → M' 189 25 = sumN (spiltA rr pd du lm N) N → M' 189 26 = sumN (grewA rr pd du lm N) N → M' 189 27 = sumN pd N → FrP M M' → Q (sumN (shortA rr pd du lm N) N) M') : wp_X12_plays 189 M Q := by
  rintro M2 rfl M7 rfl M12 rfl
  have z1 : st2 (st2 (st2 M 189 25 0) 189 26 0) 189 27 0 189 25 = 0 := by simp (disch := omega) only [st2_h, st2_n]
  have z2 : st2 (st2 (st2 M 189 25 0) 189 26 0) 189 27 0 189 26 = 0 := by simp (disch := omega) only [st2_h, st2_n]
  have z3 : st2 (st2 (st2 M 189 25 0) 189 26 0) 189 27 0 189 27 = 0 := by simp (disch := omega) only [st2_h, st2_n]
  have zf : FrP M (st2 (st2 (st2 M 189 25 0) 189 26 0) 189 27 0) := fun k j _ _ hk => by rw [st2_n _ _ (by omega), st2_n _ _ (by omega), st2_n _ _ (by omega)]
  generalize st2 (st2 (st2 M 189 25 0) 189 26 0) 189 27 0 = M0 at *
  refine ⟨fun M' x1 x3 x5 x7 x8 => ∃ i m : Nat, x7 = (i : Int) ∧ x8 = ((m + 1 : Nat) : Int) ∧ i ≤ N ∧ m ≤ 60 ∧ (∀ c, c < i → D c ≤ m) ∧ (i < N → m < D i) ∧ x3 = atR C (fun k => sumN (fun b => h b * p b k) n) m i ∧ x1 = hasS rr pd du lm N i ∧ x5 = sumN (shortA rr pd du lm N) i ∧ (∀ c, c < i → M' 206 c = hasS rr pd du lm N (c + 1) ∧ M' 207 c = shortA rr pd du lm N c) ∧ M' 189 25 = sumN (spiltA rr pd du lm N) i ∧ M' 189 26 = sumN (grewA rr pd du lm N) i ∧ M' 189 27 = sumN pd i ∧ FrP M M', fun _ _ _ _ _ x8 => (62 - x8).toNat, ⟨0, 0, rfl, rfl, Nat.zero_le _, by omega, fun c hc => by omega, fun hi => (hD 0 hi).2.1, rfl, rfl, rfl, fun c hc => by omega, z1, z2, z3, zf⟩, ?_⟩
  clear z1 z2 z3 zf M0
  rintro M1 x1 x3 x5 x7 x8 ⟨i, m, rfl, rfl, hi, hm, g1, g2, rfl, rfl, rfl, g3, g4, g5, g6, gF⟩
  unfold wp_X12_plays_B28
  dsimp only
  have q5 : M1 189 5 = (N : Int) := (gF 189 5 (by decide) (by decide) (by decide)).trans h0
  have q3 : M1 189 3 = (n : Int) := (gF 189 3 (by decide) (by decide) (by decide)).trans h3
  rw [q5, w32n (show N < 2147483648 by omega), w32n (show i < 2147483648 by omega)]
  refine ⟨fun u => ?_, fun u => ?_⟩
  · have : i = N := by omega
    subst this
    exact hq M1 g3 g4 g5 g6 gF
  have hiN : i < N := by omega
  obtain ⟨d1, d2, d3⟩ := hD i hiN
  have hmD := g2 hiN
  have hCm : C m = i := by
    have a1 := (hle i (m + 1) hiN (by omega)).mp (by omega)
    rw [show m + 1 - 1 = m by omega] at a1
    rcases Nat.eq_zero_or_pos i with z | z
    · omega
    · have a2 := g1 (i - 1) (by omega)
      have a3 := hle (i - 1) (m + 1) (by omega) (by omega)
      rw [show m + 1 - 1 = m by omega] at a3
      omega
  have accS : atR C (fun k => sumN (fun b => h b * p b k) n) (m + 1) i = atR C (fun k => sumN (fun b => h b * p b k) n) m i + sumN (fun b => h b * p b (m + 1)) n := by
    show _ + (if C (m + 1 - 1) = i then sumN (fun b => h b * p b (m + 1)) n else 0) = _
    rw [show m + 1 - 1 = m by omega, if_pos hCm]
    rfl
  -- the bonds of a day
  refine ⟨fun x3 x9 => ∃ b : Nat, x9 = (b : Int) ∧ b ≤ n ∧ x3 = atR C (fun k => sumN (fun b => h b * p b k) n) m i + sumN (fun b => h b * p b (m + 1)) b, fun _ x9 => ((n : Int) - x9).toNat, ⟨0, rfl, Nat.zero_le _, (Int.add_zero _).symm⟩, ?_⟩
  rintro x3 x9 ⟨b, rfl, hb, rfl⟩
  unfold wp_X12_plays_B40
  dsimp only
  rw [q3, w32n (show n < 2147483648 by omega), w32n (show b < 2147483648 by omega)]
  refine ⟨fun u2 => ?_, fun u2 => ?_⟩
  case refine_2 =>
    have hbn : b < n := by omega
    obtain ⟨h1, h2, h4⟩ := hh b hbn
    have hp1 := hpr b (m + 1) hbn (by omega) (by omega)
    refine of_ok (w := 6) rfl (by omega) (by decide) (hpay M1 gF b (m + 1) hbn (by omega) (by omega) _ ?_)
    rw [show 5 * 6 + b = 30 + b by omega, gF 193 _ (by omega) (by omega) (by omega), h1, w32_id (z := h b) (by omega) (by omega), w32_id (z := p b (m + 1)) (by omega) (by omega)]
    rintro v70 rfl
    refine ⟨⟨b + 1, by omega, by omega, ?_⟩, by omega⟩
    show _ = _ + (sumN (fun b => h b * p b (m + 1)) b + h b * p b (m + 1))
    omega
  have : b = n := by omega
  subst this
  rw [← accS]
  rw [rtv_189_6, ixn (show i < 2147483648 by omega), gF 194 i (by omega) (by omega) (by omega), d1, w32n (show m + 1 < 2147483648 by omega), w32n (show D i < 2147483648 by omega)]
  refine ⟨inbn LN_194 (by omega), fun u3 => ?_, fun u3 => ?_⟩
  case refine_2 =>
    unfold wp_X12_plays_b259
    exact ⟨⟨i, m + 1, rfl, by omega, hi, by omega, fun c hc => by have := g1 c hc; omega, fun _ => by omega, rfl, rfl, rfl, g3, g4, g5, g6, gF⟩, by omega⟩
  have hDm : D i = m + 1 := by omega
  obtain ⟨p1, p2, p3, p4⟩ := hP.2 i hiN
  obtain ⟨e2, e3, e4, e5⟩ := e1 i hiN
  have hacc : atR C (fun k => sumN (fun b => h b * p b k) b) (m + 1) i = pd i := by
    rw [e3, ← atR_sumN, ← hDm]
    unfold atR
    refine (sumP_split d3 fun k k1 k2 => ?_).symm
    have := hle i k hiN (by omega)
    dsimp only
    rw [if_neg (by omega)]
  rw [hacc]
  have hh2 := hasS_range hP i (by omega)
  have hbq := bq_range i (by omega)
  have hg := grwS_range hh2.1 p1
  have eR : restA rr pd du lm N i = grwS (hasS rr pd du lm N i) (rr i) + pd i - du i := rfl
  have eH := hasS_succ rr pd du lm N i
  have eS : shortA rr pd du lm N i = mx0 (-(restA rr pd du lm N i)) := rfl
  have sS : sumN (shortA rr pd du lm N) (i + 1) = sumN (shortA rr pd du lm N) i + shortA rr pd du lm N i := rfl
  have sL : sumN (spiltA rr pd du lm N) (i + 1) = sumN (spiltA rr pd du lm N) i + (if limS N i (lm i) (mx0 (restA rr pd du lm N i)) then mx0 (restA rr pd du lm N i) - lm i else 0) := rfl
  have sG : sumN (grewA rr pd du lm N) (i + 1) = sumN (grewA rr pd du lm N) i + (grwS (hasS rr pd du lm N i) (rr i) - hasS rr pd du lm N i) := rfl
  have sP : sumN pd (i + 1) = sumN pd i + pd i := rfl
  have hR1 := hR (m + 1) (by omega)
  have hd1 := hd (m + 1) (by omega)
  refine hby M1 gF (m + 1) (by omega) (by omega) _ ?_
  rw [hDm] at e2 e4 e5
  rw [← e2, vl_4, w32_id (z := 4 + rr i) (by omega) (by omega)]
  have eD : (w64 (hasS rr pd du lm N i * (4 + rr i))).tdiv 4 = grwS (hasS rr pd du lm N i) (rr i) := by
    rw [w64_id (by omega) (by omega), Int.tdiv_eq_ediv_of_nonneg (by omega)]
    rfl
  rw [eD]
  generalize hH : hasS rr pd du lm N i = H at *
  generalize hG : grwS H (rr i) = G at *
  refine ⟨by decide, ?_⟩
  rintro v109 rfl
  rw [g5]
  rintro M119 rfl
  rw [st2_n _ _ (show ¬ (189 = 189 ∧ 27 = 26) by omega), g6]
  rintro M129 rfl
  have fF : FrP M (st2 (st2 M1 189 26 (sumN (grewA rr pd du lm N) i + (G - H))) 189 27 (sumN pd i + pd i)) := fun k j a c d => by rw [st2_n _ _ (by omega), st2_n _ _ (by omega)]; exact gF k j a c d
  have f25 : st2 (st2 M1 189 26 (sumN (grewA rr pd du lm N) i + (G - H))) 189 27 (sumN pd i + pd i) 189 25 = sumN (spiltA rr pd du lm N) i := by rw [st2_n _ _ (by omega), st2_n _ _ (by omega)]; exact g4
  have f26 : st2 (st2 M1 189 26 (sumN (grewA rr pd du lm N) i + (G - H))) 189 27 (sumN pd i + pd i) 189 26 = sumN (grewA rr pd du lm N) (i + 1) := by rw [st2_n _ _ (by omega), st2_s, sG]
  have f27 : st2 (st2 M1 189 26 (sumN (grewA rr pd du lm N) i + (G - H))) 189 27 (sumN pd i + pd i) 189 27 = sumN pd (i + 1) := by rw [st2_s, sP]
  have fc : ∀ c, c < i → st2 (st2 M1 189 26 (sumN (grewA rr pd du lm N) i + (G - H))) 189 27 (sumN pd i + pd i) 206 c = hasS rr pd du lm N (c + 1) ∧ st2 (st2 M1 189 26 (sumN (grewA rr pd du lm N) i + (G - H))) 189 27 (sumN pd i + pd i) 207 c = shortA rr pd du lm N c := fun c hc => by
    rw [st2_off _ _ (by omega), st2_off _ _ (by omega), st2_off _ _ (by omega), st2_off _ _ (by omega)]
    exact g3 c hc
  generalize st2 (st2 M1 189 26 (sumN (grewA rr pd du lm N) i + (G - H))) 189 27 (sumN pd i + pd i) = M9 at *
  clear g3 g4 g5 g6 gF q5 q3 M1
  rw [rtv_189_0, ixn (show m + 1 < 2147483648 by omega), fF 190 (m + 1) (by omega) (by omega) (by omega), ← e4, w32_id (z := du i) (by omega) (by omega)]
  refine ⟨inbn LN_190 (by omega), ?_⟩
  rw [show du i - (H + (G - H + pd i)) = -(restA rr pd du lm N i) by omega]
  refine max0_ok (by omega) (by omega) ?_
  rw [← eS, rtv_189_24]
  refine ⟨inbn LN_207 (by omega), ?_⟩
  rintro M161 rfl
  have fF2 : FrP M (st2 M9 207 i (shortA rr pd du lm N i)) := fun k j a c d => by rw [st2_off _ _ c]; exact fF k j a c d
  rw [fF2 190 (m + 1) (by omega) (by omega) (by omega), ← e4, w32_id (z := du i) (by omega) (by omega)]
  refine ⟨inbn LN_190 (by omega), ?_⟩
  rw [show H + (G - H + pd i) - du i = restA rr pd du lm N i by omega]
  refine max0_ok (by omega) (by omega) ?_
  rw [st2_s]
  refine ⟨inbn LN_207 (by omega), ?_⟩
  rintro v187 rfl
  have hmx : 0 ≤ mx0 (restA rr pd du lm N i) ∧ mx0 (restA rr pd du lm N i) ≤ 1000000000000 := by
    unfold mx0
    split <;> omega
  generalize hW : mx0 (restA rr pd du lm N i) = W at *
  have b230 : ∀ s0 : Int, W - s0 = hasS rr pd du lm N (i + 1) → sumN (spiltA rr pd du lm N) i + s0 = sumN (spiltA rr pd du lm N) (i + 1) → wp_X12_plays_b230 189 Q (fun M' x1' x3' x5' x7' x8' => (∃ i m : Nat, x7' = (i : Int) ∧ x8' = ((m + 1 : Nat) : Int) ∧ i ≤ N ∧ m ≤ 60 ∧ (∀ c, c < i → D c ≤ m) ∧ (i < N → m < D i) ∧ x3' = atR C (fun k => sumN (fun b => h b * p b k) b) m i ∧ x1' = hasS rr pd du lm N i ∧ x5' = sumN (shortA rr pd du lm N) i ∧ (∀ c, c < i → M' 206 c = hasS rr pd du lm N (c + 1) ∧ M' 207 c = shortA rr pd du lm N c) ∧ M' 189 25 = sumN (spiltA rr pd du lm N) i ∧ M' 189 26 = sumN (grewA rr pd du lm N) i ∧ M' 189 27 = sumN pd i ∧ FrP M M') ∧ (62 - x8').toNat < (62 - ((m + 1 : Nat) : Int)).toNat) (st2 M9 207 i (shortA rr pd du lm N i)) s0 W 0 (sumN (shortA rr pd du lm N) i + shortA rr pd du lm N i) (i : Int) ((m + 1 : Nat) : Int) := by
    intro s0 hs0 hs1
    unfold wp_X12_plays_b230 wp_X12_plays_b259
    rw [st2_n _ _ (show ¬ (189 = 207 ∧ 25 = i) by omega), f25]
    rintro M245 rfl
    rw [rtv_189_23, ixn (show i < 2147483648 by omega)]
    refine ⟨inbn LN_206 (by omega), ?_⟩
    rintro M255 rfl
    refine ⟨⟨i + 1, m + 1, by omega, by omega, by omega, by omega, fun c hc => ?_, fun z => ?_, ?_, hs0, sS.symm, fun c hc => ?_, ?_, ?_, ?_, fun k j a c d => ?_⟩, by omega⟩
    · rcases Nat.lt_or_ge c i with z | z
      · have := g1 c z; omega
      · have : c = i := by omega
        subst this; omega
    · have := hmon i (i + 1) (by omega) z
      omega
    · refine (sumP_zero fun k k1 k2 => ?_).symm
      have := hle i k hiN k1
      dsimp only
      rw [if_neg (by omega)]
    · by_cases q : c = i
      · subst q
        rw [st2_s, st2_n _ _ (by omega), st2_n _ _ (by omega), st2_s]
        exact ⟨hs0, rfl⟩
      · rw [st2_n _ _ (by omega), st2_n _ _ (by omega), st2_n _ _ (by omega), st2_n _ _ (by omega), st2_n _ _ (by omega), st2_n _ _ (by omega)]
        exact fc c (by omega)
    · rw [st2_n _ _ (by omega), st2_s, hs1]
    · rw [st2_n _ _ (by omega), st2_n _ _ (by omega), st2_n _ _ (by omega)]; exact f26
    · rw [st2_n _ _ (by omega), st2_n _ _ (by omega), st2_n _ _ (by omega)]; exact f27
    · rw [st2_n _ _ (by omega), st2_n _ _ (by omega)]; exact fF2 k j a c d
  have b229 : limS N i (lm i) W = false → wp_X12_plays_b229 189 Q (fun M' x1' x3' x5' x7' x8' => (∃ i m : Nat, x7' = (i : Int) ∧ x8' = ((m + 1 : Nat) : Int) ∧ i ≤ N ∧ m ≤ 60 ∧ (∀ c, c < i → D c ≤ m) ∧ (i < N → m < D i) ∧ x3' = atR C (fun k => sumN (fun b => h b * p b k) b) m i ∧ x1' = hasS rr pd du lm N i ∧ x5' = sumN (shortA rr pd du lm N) i ∧ (∀ c, c < i → M' 206 c = hasS rr pd du lm N (c + 1) ∧ M' 207 c = shortA rr pd du lm N c) ∧ M' 189 25 = sumN (spiltA rr pd du lm N) i ∧ M' 189 26 = sumN (grewA rr pd du lm N) i ∧ M' 189 27 = sumN pd i ∧ FrP M M') ∧ (62 - x8').toNat < (62 - ((m + 1 : Nat) : Int)).toNat) (st2 M9 207 i (shortA rr pd du lm N i)) W 0 (sumN (shortA rr pd du lm N) i + shortA rr pd du lm N i) (i : Int) ((m + 1 : Nat) : Int) := by
    intro hl
    rw [hl] at eH sL
    exact b230 0 (by rw [eH]; simp) (by rw [sL]; simp)
  rw [fF2 189 5 (by decide) (by decide) (by decide), h0, w32_id (z := (N : Int) - 1) (by omega) (by omega), w32n (show i < 2147483648 by omega)]
  refine ⟨fun v => b229 (decide_eq_false (by omega)), fun v => ?_⟩
  rw [rtv_189_2, fF2 192 (m + 1) (by omega) (by omega) (by omega), w32_id (z := M 192 (m + 1)) (by omega) (by omega), ← e5, w32_id (z := lm i) (by omega) (by omega)]
  refine ⟨inbn LN_192 (by omega), fun v2 => b229 (decide_eq_false (by omega)), fun v2 => ⟨inbn LN_192 (by omega), max0_ok (by omega) (by omega) ?_⟩⟩
  by_cases hl : lm i < W
  · have yl : limS N i (lm i) W = true := decide_eq_true ⟨by omega, by omega, hl⟩
    rw [yl] at eH sL
    have em : mx0 (W - lm i) = W - lm i := by unfold mx0; rw [if_neg (by omega)]
    rw [em]
    refine b230 _ ?_ ?_
    · rw [eH]; simp; omega
    · rw [sL]; simp
  · have nl : limS N i (lm i) W = false := decide_eq_false (fun z => hl z.2.2)
    rw [nl] at eH sL
    have em : mx0 (W - lm i) = 0 := by
      unfold mx0
      split <;> omega
    rw [em]
    exact b230 0 (by rw [eH]; simp) (by rw [sL]; simp)
