/-! what comes to pass, rung by rung: rr the rates, pd what is paid, du the dues, lm the limits (-1: none) of N rungs -/
def grwS (h r : Int) : Int := h * (4 + r) / 4
def mx0 (z : Int) : Int := if z < 0 then 0 else z
def limS (N i : Nat) (l h1 : Int) : Bool := decide ((i : Int) < (N : Int) - 1 ∧ l ≠ -1 ∧ l < h1)
def hasS (rr pd du lm : F1) (N : Nat) : Nat → Int
  | 0 => 0
  | i + 1 => if limS N i (lm i) (mx0 (grwS (hasS rr pd du lm N i) (rr i) + pd i - du i)) then lm i else mx0 (grwS (hasS rr pd du lm N i) (rr i) + pd i - du i)
def restA (rr pd du lm : F1) (N i : Nat) : Int := grwS (hasS rr pd du lm N i) (rr i) + pd i - du i
def shortA (rr pd du lm : F1) (N i : Nat) : Int := mx0 (-(restA rr pd du lm N i))
def spiltA (rr pd du lm : F1) (N i : Nat) : Int := if limS N i (lm i) (mx0 (restA rr pd du lm N i)) then mx0 (restA rr pd du lm N i) - lm i else 0
def grewA (rr pd du lm : F1) (N i : Nat) : Int := grwS (hasS rr pd du lm N i) (rr i) - hasS rr pd du lm N i
theorem hasS_succ (rr pd du lm : F1) (N i : Nat) : hasS rr pd du lm N (i + 1) = if limS N i (lm i) (mx0 (restA rr pd du lm N i)) then lm i else mx0 (restA rr pd du lm N i) := rfl
theorem hasS_congr {rr pd du lm rr' pd' du' lm' : F1} {N : Nat} (h : ∀ i, i < N → rr' i = rr i ∧ pd' i = pd i ∧ du' i = du i ∧ lm' i = lm i) : ∀ i, i ≤ N → hasS rr' pd' du' lm' N i = hasS rr pd du lm N i
  | 0, _ => rfl
  | i + 1, hi => by
    obtain ⟨e1, e2, e3, e4⟩ := h i (by omega)
    have ih := hasS_congr h i (by omega)
    unfold hasS
    rw [ih, e1, e2, e3, e4]
theorem sumN_congr {f g : Nat → Int} : ∀ {n : Nat}, (∀ i, i < n → f i = g i) → sumN f n = sumN g n
  | 0, _ => rfl
  | n + 1, h => by
    unfold sumN
    rw [sumN_congr (n := n) (fun i hi => h i (by omega)), h n (by omega)]
def bq : Nat → Int
  | 0 => 100000000
  | i + 1 => 4 * bq i
theorem bq_range : ∀ i, i ≤ 5 → 100000000 ≤ bq i ∧ bq i ≤ 102400000000 := by
  intro i hi
  have c : i = 0 ∨ i = 1 ∨ i = 2 ∨ i = 3 ∨ i = 4 ∨ i = 5 := by omega
  rcases c with rfl | rfl | rfl | rfl | rfl | rfl <;> decide
def PlayOK (rr pd du lm : F1) (N : Nat) : Prop := N ≤ 5 ∧ ∀ i, i < N → (0 ≤ rr i ∧ rr i ≤ 9) ∧ (0 ≤ pd i ∧ pd i ≤ 10000000) ∧ (0 ≤ du i ∧ du i ≤ 99) ∧ (-1 ≤ lm i ∧ lm i ≤ 99)
theorem grwS_range {h r : Int} (h1 : 0 ≤ h) (h2 : 0 ≤ r ∧ r ≤ 9) : h ≤ grwS h r ∧ 4 * grwS h r ≤ 13 * h ∧ h * (4 + r) ≤ 13 * h ∧ 0 ≤ h * (4 + r) := by
  have a : h * 4 ≤ h * (4 + r) := Int.mul_le_mul_of_nonneg_left (by omega) h1
  have b : h * (4 + r) ≤ h * 13 := Int.mul_le_mul_of_nonneg_left (by omega) h1
  unfold grwS
  omega
theorem hasS_range {rr pd du lm : F1} {N : Nat} (h : PlayOK rr pd du lm N) : ∀ i, i ≤ N → 0 ≤ hasS rr pd du lm N i ∧ hasS rr pd du lm N i ≤ bq i
  | 0, _ => by
    unfold hasS bq
    omega
  | i + 1, hi => by
    have ih := hasS_range h i (by omega)
    obtain ⟨h1, h2, h3, h4⟩ := h.2 i (by omega)
    have hb := bq_range i (by have := h.1; omega)
    have g := grwS_range ih.1 h1
    rw [hasS_succ]
    unfold mx0 restA
    have eb : bq (i + 1) = 4 * bq i := rfl
    rw [eb]
    by_cases q : grwS (hasS rr pd du lm N i) (rr i) + pd i - du i < 0
    · rw [if_pos q]
      by_cases q2 : limS N i (lm i) 0 = true
      · rw [if_pos q2]
        have := (of_decide_eq_true q2)
        omega
      · rw [if_neg q2]; omega
    · rw [if_neg q]
      by_cases q2 : limS N i (lm i) (grwS (hasS rr pd du lm N i) (rr i) + pd i - du i) = true
      · rw [if_pos q2]
        have := (of_decide_eq_true q2)
        omega
      · rw [if_neg q2]; omega
/-! the class plays -/
theorem rtv_177_c : rt 177 0 = 178 := by decide +kernel
theorem rtv_177_s : rt 177 2 = 179 := by decide +kernel
theorem paidByAll_ok {s : Nat} (hs : SC s) {i : Nat} (hi : i < 5) {M : Mem} {Q : Int → Prop} {g : Nat} (lg : LN g 5) (h : Q (sumN (fun b => M g b * M (s + 14 + b) i) 5)) : wp_X8_paidByAll s g (i : Int) M Q := by
  refine ⟨fun x3 x4 => ∃ b : Nat, x4 = (b : Int) ∧ b ≤ 5 ∧ x3 = sumN (fun b => M g b * M (s + 14 + b) i) b, fun _ x4 => (5 - x4).toNat, ⟨0, rfl, by omega, rfl⟩, ?_⟩
  rintro x3 x4 ⟨b, rfl, hb, rfl⟩
  unfold wp_X8_paidByAll_B5
  dsimp only
  rw [wl_5, w32n (show b < 2147483648 by omega), ixn (show b < 2147483648 by omega), ixn (show i < 2147483648 by omega), (SC_rt hs).2.2.2.2.2.2.2.1]
  refine ⟨fun u => ?_, fun u => ?_⟩
  · rw [show b = 5 by omega]; exact h
  · have hb5 : b < 5 := by omega
    rw [SC_rt13 hs b hb5]
    refine ⟨inbn lg hb5, inbn (SC_ln hs).2.2.2.2.2.2.2.1 hb5, inbn (SC_ln14 hs b hb5) hi, ?_⟩
    rintro v27 rfl
    exact ⟨⟨b + 1, by omega, by omega, rfl⟩, by omega⟩
theorem isLimited_ok {s N : Nat} (hs : SC s) {i : Nat} {M : Mem} {Q : Bool → Prop} (hN : N ≤ 5) (h0 : M s 0 = (N : Int)) (hi : i < N) (hl : -1 ≤ M (s + 4) i ∧ M (s + 4) i ≤ 99) (h : Q (decide ((i : Int) < (N : Int) - 1 ∧ M (s + 4) i ≠ -1))) : wp_X8_isLimited s (i : Int) M Q := by
  unfold wp_X8_isLimited
  rw [h0, w32_id (z := (N : Int) - 1) (by omega) (by omega), w32n (show i < 2147483648 by omega), ixn (show i < 2147483648 by omega), (SC_rt hs).2.2.2.1, wm_1, w32_id (z := M (s + 4) i) (by omega) (by omega)]
  refine ⟨fun u => ?_, fun u => ⟨inbn (SC_ln hs).2.2.2.1 (by omega), fun u2 => ?_, fun u2 => ?_⟩⟩
  · rw [decide_eq_false (by omega)] at h; exact h
  · rw [decide_eq_false (by omega)] at h; exact h
  · rw [decide_eq_true ⟨by omega, u2⟩] at h; exact h
theorem play_ok {s N : Nat} (hs : SC s) {M : Mem} {Q : Mem → Prop} {rr pd du lm : F1} (hP : PlayOK rr pd du lm N) (h0 : M s 0 = (N : Int)) (hr : ∀ i, i < N → M (s + 3) i = rr i ∧ M (s + 2) i = du i ∧ M (s + 4) i = lm i ∧ sumN (fun b => M 71 b * M (s + 14 + b) i) 5 = pd i)
    (h : ∀ M' : Mem, M' 177 6 = (N : Int) → M' 177 1 = sumN (shortA rr pd du lm N) N → M' 177 3 = sumN (spiltA rr pd du lm N) N → M' 177 4 = sumN (grewA rr pd du lm N) N → M' 177 5 = sumN pd N → (∀ i, i < N → M' 178 i = hasS rr pd du lm N (i + 1) ∧ M' 179 i = shortA rr pd du lm N i) → (∀ k j, k ≠ 177 → k ≠ 178 → k ≠ 179 → M' k j = M k j) → Q M') : wp_X6_play 177 s 71 M Q := by
  have hsb := SC_big hs
  have hN5 := hP.1
  rintro M5 rfl M10 rfl M15 rfl M20 rfl M25 rfl
  rw [h0]
  have z1 : st2 (st2 (st2 (st2 (st2 M 177 6 (N : Int)) 177 1 0) 177 3 0) 177 4 0) 177 5 0 177 6 = (N : Int) := by simp (disch := omega) only [st2_h, st2_n]
  have z2 : st2 (st2 (st2 (st2 (st2 M 177 6 (N : Int)) 177 1 0) 177 3 0) 177 4 0) 177 5 0 177 1 = 0 := by simp (disch := omega) only [st2_h, st2_n]
  have z3 : st2 (st2 (st2 (st2 (st2 M 177 6 (N : Int)) 177 1 0) 177 3 0) 177 4 0) 177 5 0 177 3 = 0 := by simp (disch := omega) only [st2_h, st2_n]
  have z4 : st2 (st2 (st2 (st2 (st2 M 177 6 (N : Int)) 177 1 0) 177 3 0) 177 4 0) 177 5 0 177 4 = 0 := by simp (disch := omega) only [st2_h, st2_n]
  have z5 : st2 (st2 (st2 (st2 (st2 M 177 6 (N : Int)) 177 1 0) 177 3 0) 177 4 0) 177 5 0 177 5 = 0 := by simp (disch := omega) only [st2_h, st2_n]
  have zf : ∀ k j, k ≠ 177 → st2 (st2 (st2 (st2 (st2 M 177 6 (N : Int)) 177 1 0) 177 3 0) 177 4 0) 177 5 0 k j = M k j := fun k j hk => by rw [st2_off _ _ hk, st2_off _ _ hk, st2_off _ _ hk, st2_off _ _ hk, st2_off _ _ hk]
  generalize st2 (st2 (st2 (st2 (st2 M 177 6 (N : Int)) 177 1 0) 177 3 0) 177 4 0) 177 5 0 = M0 at *
  refine ⟨fun M' x3 x5 => ∃ i : Nat, x5 = (i : Int) ∧ i ≤ N ∧ x3 = hasS rr pd du lm N i ∧ M' 177 6 = (N : Int) ∧ M' 177 1 = sumN (shortA rr pd du lm N) i ∧ M' 177 3 = sumN (spiltA rr pd du lm N) i ∧ M' 177 4 = sumN (grewA rr pd du lm N) i ∧ M' 177 5 = sumN pd i ∧ (∀ c, c < i → M' 178 c = hasS rr pd du lm N (c + 1) ∧ M' 179 c = shortA rr pd du lm N c) ∧ (∀ k j, k ≠ 177 → k ≠ 178 → k ≠ 179 → M' k j = M k j), fun _ _ x5 => ((N : Int) - x5).toNat, ⟨0, rfl, Nat.zero_le _, rfl, z1, z2, z3, z4, z5, fun c hc => by omega, fun k j k1 _ _ => zf k j k1⟩, ?_⟩
  clear z1 z2 z3 z4 z5 zf M0
  rintro M1 x3 x5 ⟨i, rfl, hi, rfl, f1, f2, f3, f4, f5, f6, f7⟩
  unfold wp_X6_play_B33
  dsimp only
  rw [f7 s 0 (by omega) (by omega) (by omega), h0, w32n (show N < 2147483648 by omega), w32n (show i < 2147483648 by omega)]
  refine ⟨fun u => ?_, fun u => ?_⟩
  · have : i = N := by omega
    subst this
    exact h M1 f1 f2 f3 f4 f5 f6 f7
  have hiN : i < N := by omega
  obtain ⟨r1, r2, r3, r4⟩ := hr i hiN
  obtain ⟨p1, p2, p3, p4⟩ := hP.2 i hiN
  have hh := hasS_range hP i (by omega)
  have hb := bq_range i (by omega)
  have hg := grwS_range hh.1 p1
  have eR : restA rr pd du lm N i = grwS (hasS rr pd du lm N i) (rr i) + pd i - du i := rfl
  have eH := hasS_succ rr pd du lm N i
  have eS : shortA rr pd du lm N i = mx0 (-(restA rr pd du lm N i)) := rfl
  have eL : spiltA rr pd du lm N i = if limS N i (lm i) (mx0 (restA rr pd du lm N i)) then mx0 (restA rr pd du lm N i) - lm i else 0 := rfl
  have eG : grewA rr pd du lm N i = grwS (hasS rr pd du lm N i) (rr i) - hasS rr pd du lm N i := rfl
  have sS : sumN (shortA rr pd du lm N) (i + 1) = sumN (shortA rr pd du lm N) i + shortA rr pd du lm N i := rfl
  have sL : sumN (spiltA rr pd du lm N) (i + 1) = sumN (spiltA rr pd du lm N) i + spiltA rr pd du lm N i := rfl
  have sG : sumN (grewA rr pd du lm N) (i + 1) = sumN (grewA rr pd du lm N) i + grewA rr pd du lm N i := rfl
  have sP : sumN pd (i + 1) = sumN pd i + pd i := rfl
  rw [eL] at sL
  rw [eG] at sG
  rw [ixn (show i < 2147483648 by omega), (SC_rt hs).2.1, (SC_rt hs).2.2.1, f7 (s + 3) i (by omega) (by omega) (by omega), r1, vl_4, vl_0, w32_id (z := 4 + rr i) (by omega) (by omega)]
  have eD : (w64 (hasS rr pd du lm N i * (4 + rr i))).tdiv 4 = grwS (hasS rr pd du lm N i) (rr i) := by
    rw [w64_id (by omega) (by omega), Int.tdiv_eq_ediv_of_nonneg (by omega)]
    rfl
  rw [eD]
  generalize hH : hasS rr pd du lm N i = H at *
  refine ⟨inbn (SC_ln hs).2.2.1 (by omega), by decide, ?_⟩
  rintro v58 rfl
  generalize hG : grwS H (rr i) = G at *
  refine paidByAll_ok hs (by omega) LN_71 ?_
  rw [show sumN (fun b => M1 71 b * M1 (s + 14 + b) i) 5 = pd i from by
    rw [← r4]
    exact sumN_congr fun b hb => by rw [f7 71 b (by omega) (by omega) (by omega), f7 (s + 14 + b) i (by omega) (by omega) (by omega)]]
  rw [f4]
  rintro M80 rfl
  rw [w32_id (z := pd i) (by omega) (by omega)]
  rw [st2_n _ _ (show ¬ (177 = 177 ∧ 5 = 4) by omega), f5]
  rintro M91 rfl
  have f7' : ∀ k j, k ≠ 177 → k ≠ 178 → k ≠ 179 → st2 (st2 M1 177 4 (sumN (grewA rr pd du lm N) i + (G - H))) 177 5 (sumN pd i + pd i) k j = M k j := fun k j a b c => by rw [st2_off _ _ a, st2_off _ _ a]; exact f7 k j a b c
  have g1 : st2 (st2 M1 177 4 (sumN (grewA rr pd du lm N) i + (G - H))) 177 5 (sumN pd i + pd i) 177 6 = (N : Int) := by rw [st2_n _ _ (by omega), st2_n _ _ (by omega)]; exact f1
  have g2 : st2 (st2 M1 177 4 (sumN (grewA rr pd du lm N) i + (G - H))) 177 5 (sumN pd i + pd i) 177 1 = sumN (shortA rr pd du lm N) i := by rw [st2_n _ _ (by omega), st2_n _ _ (by omega)]; exact f2
  have g3 : st2 (st2 M1 177 4 (sumN (grewA rr pd du lm N) i + (G - H))) 177 5 (sumN pd i + pd i) 177 3 = sumN (spiltA rr pd du lm N) i := by rw [st2_n _ _ (by omega), st2_n _ _ (by omega)]; exact f3
  have g4 : st2 (st2 M1 177 4 (sumN (grewA rr pd du lm N) i + (G - H))) 177 5 (sumN pd i + pd i) 177 4 = sumN (grewA rr pd du lm N) i + (G - H) := by rw [st2_n _ _ (by omega), st2_s]
  have g5 : st2 (st2 M1 177 4 (sumN (grewA rr pd du lm N) i + (G - H))) 177 5 (sumN pd i + pd i) 177 5 = sumN pd i + pd i := st2_s _ _ _ _
  have g6 : ∀ c, c < i → st2 (st2 M1 177 4 (sumN (grewA rr pd du lm N) i + (G - H))) 177 5 (sumN pd i + pd i) 178 c = hasS rr pd du lm N (c + 1) ∧ st2 (st2 M1 177 4 (sumN (grewA rr pd du lm N) i + (G - H))) 177 5 (sumN pd i + pd i) 179 c = shortA rr pd du lm N c := fun c hc => by
    rw [st2_off _ _ (by omega), st2_off _ _ (by omega), st2_off _ _ (by omega), st2_off _ _ (by omega)]
    exact f6 c hc
  generalize st2 (st2 M1 177 4 (sumN (grewA rr pd du lm N) i + (G - H))) 177 5 (sumN pd i + pd i) = M9 at *
  clear f1 f2 f3 f4 f5 f6 f7 M1
  refine ⟨inbn (SC_ln hs).2.1 (by omega), ?_⟩
  rw [f7' (s + 2) i (by omega) (by omega) (by omega), r2, w32_id (z := du i) (by omega) (by omega)]
  rintro v108 rfl
  rw [← eR]
  generalize hRr : restA rr pd du lm N i = Rr at *
  rw [w64_id (z := Rr) (by omega) (by omega)]
  -- behind the SHORT
  have b130 : ∀ s2 : Int, s2 = mx0 (-Rr) → wp_X6_play_b130 177 s 71 Q (fun M' x3' x5' => (∃ i : Nat, x5' = (i : Int) ∧ i ≤ N ∧ x3' = hasS rr pd du lm N i ∧ M' 177 6 = (N : Int) ∧ M' 177 1 = sumN (shortA rr pd du lm N) i ∧ M' 177 3 = sumN (spiltA rr pd du lm N) i ∧ M' 177 4 = sumN (grewA rr pd du lm N) i ∧ M' 177 5 = sumN pd i ∧ (∀ c, c < i → M' 178 c = hasS rr pd du lm N (c + 1) ∧ M' 179 c = shortA rr pd du lm N c) ∧ (∀ k j, k ≠ 177 → k ≠ 178 → k ≠ 179 → M' k j = M k j)) ∧ ((N : Int) - x5').toNat < ((N : Int) - (i : Int)).toNat) M9 (i : Int) s2 (i : Int) Rr := by
    intro s2 hs2
    unfold wp_X6_play_b130
    rw [rtv_177_s, ixn (show i < 2147483648 by omega)]
    refine ⟨inbn LN_179 (by omega), ?_⟩
    rintro M130 rfl
    rw [st2_s, st2_n _ _ (by omega), g2, vl_0, w64_id (z := Rr) (by omega) (by omega)]
    refine ⟨inbn LN_179 (by omega), ?_⟩
    rintro M144 rfl
    -- the end of the round, by what is kept and what is spilt
    have b211 : ∀ (h2 sp : Int) (M2 : Mem), h2 = hasS rr pd du lm N (i + 1) → M2 177 3 = sumN (spiltA rr pd du lm N) (i + 1) → (∀ k j, ¬ (k = 177 ∧ j = 3) → M2 k j = st2 (st2 M9 179 i s2) 177 1 (sumN (shortA rr pd du lm N) i + s2) k j) → wp_X6_play_b211 177 s 71 Q (fun M' x3' x5' => (∃ i : Nat, x5' = (i : Int) ∧ i ≤ N ∧ x3' = hasS rr pd du lm N i ∧ M' 177 6 = (N : Int) ∧ M' 177 1 = sumN (shortA rr pd du lm N) i ∧ M' 177 3 = sumN (spiltA rr pd du lm N) i ∧ M' 177 4 = sumN (grewA rr pd du lm N) i ∧ M' 177 5 = sumN pd i ∧ (∀ c, c < i → M' 178 c = hasS rr pd du lm N (c + 1) ∧ M' 179 c = shortA rr pd du lm N c) ∧ (∀ k j, k ≠ 177 → k ≠ 178 → k ≠ 179 → M' k j = M k j)) ∧ ((N : Int) - x5').toNat < ((N : Int) - (i : Int)).toNat) M2 h2 (i : Int) := by
      intro h2 sp M2 hh2 q3 qf
      unfold wp_X6_play_b211
      rw [rtv_177_c, ixn (show i < 2147483648 by omega)]
      refine ⟨inbn LN_178 (by omega), ?_⟩
      rintro M218 rfl
      refine ⟨⟨i + 1, by omega, by omega, hh2, ?_, ?_, ?_, ?_, ?_, fun c hc => ?_, fun k j a b c => ?_⟩, by omega⟩
      · rw [st2_n _ _ (by omega), qf _ _ (by omega), st2_n _ _ (by omega), st2_n _ _ (by omega)]; exact g1
      · rw [st2_n _ _ (by omega), qf _ _ (by omega), st2_s, sS, eS, hs2]
      · rw [st2_n _ _ (by omega)]; exact q3
      · rw [st2_n _ _ (by omega), qf _ _ (by omega), st2_n _ _ (by omega), st2_n _ _ (by omega), g4, sG]
      · rw [st2_n _ _ (by omega), qf _ _ (by omega), st2_n _ _ (by omega), st2_n _ _ (by omega), g5, sP]
      · by_cases q : c = i
        · subst q
          rw [st2_s, st2_n _ _ (by omega), qf _ _ (by omega), st2_n _ _ (by omega), st2_s, eS]
          exact ⟨hh2, hs2⟩
        · rw [st2_n _ _ (by omega), st2_n _ _ (by omega), qf _ _ (by omega), qf _ _ (by omega), st2_n _ _ (by omega), st2_n _ _ (by omega), st2_n _ _ (by omega), st2_n _ _ (by omega)]
          exact g6 c (by omega)
      · rw [st2_n _ _ (by omega), qf _ _ (by omega), st2_n _ _ (by omega), st2_n _ _ (by omega)]; exact f7' k j a b c
    have b160 : ∀ s0 : Int, s0 = mx0 Rr → wp_X6_play_b160 177 s 71 Q (fun M' x3' x5' => (∃ i : Nat, x5' = (i : Int) ∧ i ≤ N ∧ x3' = hasS rr pd du lm N i ∧ M' 177 6 = (N : Int) ∧ M' 177 1 = sumN (shortA rr pd du lm N) i ∧ M' 177 3 = sumN (spiltA rr pd du lm N) i ∧ M' 177 4 = sumN (grewA rr pd du lm N) i ∧ M' 177 5 = sumN pd i ∧ (∀ c, c < i → M' 178 c = hasS rr pd du lm N (c + 1) ∧ M' 179 c = shortA rr pd du lm N c) ∧ (∀ k j, k ≠ 177 → k ≠ 178 → k ≠ 179 → M' k j = M k j)) ∧ ((N : Int) - x5').toNat < ((N : Int) - (i : Int)).toNat) (st2 (st2 M9 179 i s2) 177 1 (sumN (shortA rr pd du lm N) i + s2)) s0 (i : Int) := by
      intro s0 hs0
      have hs0r : 0 ≤ s0 ∧ s0 ≤ 1000000000000 := by
        rw [hs0]
        unfold mx0
        split <;> omega
      rw [← hs0] at eH sL
      have o4 : ∀ k j, k ≠ 177 → k ≠ 178 → k ≠ 179 → st2 (st2 M9 179 i s2) 177 1 (sumN (shortA rr pd du lm N) i + s2) k j = M k j := fun k j a b c => by rw [st2_off _ _ a, st2_off _ _ c]; exact f7' k j a b c
      have o3 : st2 (st2 M9 179 i s2) 177 1 (sumN (shortA rr pd du lm N) i + s2) 177 3 = sumN (spiltA rr pd du lm N) i := by rw [st2_n _ _ (by omega), st2_n _ _ (by omega)]; exact g3
      unfold wp_X6_play_b160
      refine isLimited_ok hs hN5 ((o4 s 0 (by omega) (by omega) (by omega)).trans h0) hiN (by rw [o4 (s + 4) i (by omega) (by omega) (by omega), r3]; exact p4) ?_
      rw [ixn (show i < 2147483648 by omega), (SC_rt hs).2.2.2.1, o4 (s + 4) i (by omega) (by omega) (by omega), r3, o3]
      have e64 : w64 (w32 (lm i)) = lm i := by rw [w32_id (by omega) (by omega), w64_id (by omega) (by omega)]
      rw [e64, w64_id (z := s0) (by omega) (by omega)]
      refine dcf (fun v => ⟨inbn (SC_ln hs).2.2.2.1 (by omega), fun v2 => ?_, fun v2 => ⟨inbn (SC_ln hs).2.2.2.1 (by omega), ?_⟩⟩) (fun v => ?_)
      · have nl : limS N i (lm i) s0 = false := decide_eq_false (by omega)
        rw [nl] at eH sL
        exact b211 _ 0 _ eH.symm (by rw [o3, sL]; simp) (fun _ _ _ => rfl)
      · have yl : limS N i (lm i) s0 = true := decide_eq_true ⟨v.1, v.2, by omega⟩
        rw [yl] at eH sL
        rintro M199 rfl
        refine ⟨inbn (SC_ln hs).2.2.2.1 (by omega), ?_⟩
        rintro v210 rfl
        rw [st2_off _ _ (show s + 4 ≠ 177 by omega), o4 (s + 4) i (by omega) (by omega) (by omega), r3, w32_id (z := lm i) (by omega) (by omega)]
        exact b211 _ 0 _ eH.symm (by rw [st2_s, sL]; simp) (fun k j hk => st2_n _ _ hk)
      · have nl : limS N i (lm i) s0 = false := decide_eq_false (fun w => v ⟨w.1, w.2.1⟩)
        rw [nl] at eH sL
        exact b211 _ 0 _ eH.symm (by rw [o3, sL]; simp) (fun _ _ _ => rfl)
    refine ⟨fun u => b160 _ ?_, fun u => b160 _ ?_⟩
    · unfold mx0; rw [if_neg (by omega)]
    · unfold mx0; rw [if_pos (by omega)]
  refine ⟨fun u => b130 _ ?_, fun u => b130 _ ?_⟩
  · unfold mx0; split <;> omega
  · unfold mx0; rw [if_neg (by omega)]
