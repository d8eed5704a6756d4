/-! a scene is laid -/
theorem noY_r (i : Nat) : -1 ≤ noY i ∧ noY i ≤ 9 := by unfold noY; decide
theorem allS_eq (d t : F1) (b : Nat) (R : F1) : ∀ n, allS d t b R n = allR (cnt d) (payT t b R) 60 n
  | 0 => rfl
  | n + 1 => by
    unfold allS allR
    rw [allS_eq d t b R n]
    rfl
theorem lastS_eq (d t : F1) (b : Nat) (R : F1) : ∀ n, lastS d t b R n = lastR (cnt d) (payT t b R) 60 n
  | 0 => rfl
  | n + 1 => by
    unfold lastS lastR
    rw [lastS_eq d t b R n]
    rfl
theorem rateS_range {r : F1} (hr : ∀ k, k ≤ 60 → 0 ≤ r k ∧ r k ≤ 4) : ∀ n, n ≤ 60 → 0 ≤ rateS r n ∧ rateS r n ≤ 3
  | 0, _ => by unfold rateS; decide
  | n + 1, h => by
    have ih := rateS_range hr n (by omega)
    have := hr (n + 1) h
    unfold rateS
    split <;> omega
theorem rateByS_range {d r y : F1} (hn : rungs d ≤ 5) (hr : ∀ k, k ≤ 60 → 0 ≤ r k ∧ r k ≤ 4) (hy : ∀ i, i < 5 → -1 ≤ y i ∧ y i ≤ 9) {k : Nat} (hk : k ≤ 60) : 0 ≤ rateByS d r y k ∧ rateByS d r y k ≤ 9 := by
  have h1 := rateS_range hr k hk
  unfold rateByS
  by_cases q : cnt d (k - 1) < rungs d ∧ y (cnt d (k - 1)) ≠ -1
  · rw [if_pos q]
    have := hy (cnt d (k - 1)) (Nat.lt_of_lt_of_le q.1 hn)
    generalize y (cnt d (k - 1)) = z at *
    omega
  · rw [if_neg q]; omega
theorem BookR_t {D R L : F1} {B : Nat → F1} {nb : Int} {d r l t : F1} {n : Int} (h : BookR D R L B nb d r l t n) {b : Nat} (hb : (b : Int) < n) : b < 5 ∧ (∀ w, w < 7 → B b w = t (5 * w + b)) ∧ (0 ≤ t b ∧ t b ≤ 5) ∧ (1 ≤ t (5 + b) ∧ t (5 + b) ≤ 99) ∧ (0 ≤ t (10 + b) ∧ t (10 + b) ≤ 9) ∧ (1 ≤ t (15 + b) ∧ t (15 + b) ≤ 30) ∧ (1 ≤ t (20 + b) ∧ t (20 + b) ≤ 60) ∧ (1 ≤ t (25 + b) ∧ t (25 + b) ≤ 60) ∧ (0 ≤ t (30 + b) ∧ t (30 + b) ≤ 99) := by
  obtain ⟨-, -, -, -, -, -, q7, q8, q9⟩ := h
  exact ⟨by omega, q9 b hb⟩
theorem lay_ok {s yc : Nat} (hs : SC s) (hy : yc = 69 ∨ yc = 70) {M : Mem} {Q : Mem → Prop} (hB : InvB M) {y : F1} (hY : ∀ i, i < 5 → M yc i = y i ∧ -1 ≤ y i ∧ y i ≤ 9)
    (h : ∀ M' : Mem, SceneOK M' s (M 190) (M 191) (M 192) (M 193) y (M 189 3) → (∀ k j, (k < s ∨ s + 20 < k) → M' k j = M k j) → Q M') : wp_X8_lay s 1 yc M Q := by
  have hsb := SC_big hs
  have hdR := fun k (hk : k ≤ 60) => InvB_R hB hk
  have hc5 : cnt (M 190) 60 ≤ 5 := hB.2.2.1
  have hT := fun (b : Nat) (hb : (b : Int) < M 189 3) => BookR_t hB hb
  have hnb : M 1 4 = M 189 3 ∧ 0 ≤ M 189 3 ∧ M 189 3 ≤ 5 := ⟨hB.2.2.2.2.2.1, hB.2.2.2.2.2.2.1, hB.2.2.2.2.2.2.2.1⟩
  generalize hd : M 190 = d at *
  generalize hr : M 191 = r at *
  generalize hl : M 192 = l at *
  generalize ht : M 193 = t at *
  generalize hn : M 189 3 = n at *
  have hrg : ∀ k, k ≤ 60 → 0 ≤ r k ∧ r k ≤ 4 := fun k hk => ⟨(hdR k hk).2.2.2.2.1, (hdR k hk).2.2.2.2.2.1⟩
  have hRR : ∀ k, k ≤ 60 → 0 ≤ rateByS d r y k ∧ rateByS d r y k ≤ 9 := fun k hk => rateByS_range (d := d) (r := r) (y := y) hc5 hrg (fun i hi => (hY i hi).2) hk
  unfold wp_X8_lay
  refine layRungs_gen hs (cnt d) (dayS d) rfl (fun k hk => ?_) (fun m n => cnt_mono _) (fun k h1 h2 => ?_) (fun j hj => ?_) hc5 ?_
  · rw [(hdR (k + 1) hk).1]; exact cnt_succ d k
  · rw [(hdR (k + 1) h1).1] at h2
    exact (dayS_eq (d := d) (k := k + 1) (Nat.le_add_left 1 k) h1 h2).2
  · obtain ⟨u1, u2, u3, -⟩ := hdR j hj
    exact ⟨by omega, by omega⟩
  intro M2 f1 f2 f3 f4
  have hsz : ∀ i, i < rungs d → 1 ≤ dayS d i ∧ dayS d i ≤ 60 := fun i hi => ⟨(dayS_ok hi).1, (dayS_ok hi).2.1⟩
  have hn5 : rungs d ≤ 5 := hc5
  have f1' : M2 s 0 = (rungs d : Int) := f1
  have f2' : ∀ i, i < rungs d → M2 (s + 1) i = (dayS d i : Int) ∧ M2 (s + 2) i = M 3 (dayS d i) ∧ M2 (s + 4) i = M 7 (dayS d i) := f2
  have f3' : ∀ k, k < 60 → M2 (s + 5) (k + 1) = if cnt d k < rungs d then (cnt d k : Int) else -1 := f3
  clear f1 f2 f3
  generalize hN : rungs d = N at *
  rw [rtv_1_1, rtv_4_0]
  refine layRates_gen hs hy (cnt d) (dayS d) N r y hn5 f1' f3' (fun i hi => ⟨(f2' i hi).1, hsz i hi⟩) (fun k hk => ?_) (fun i hi => ?_) ?_
  · rw [f4 5 k (by omega) (by omega) (by omega) (by omega) (by omega)]
    obtain ⟨u1, u2, u3, u4, u5, u6, -⟩ := hdR k hk
    exact ⟨u4, u5, u6⟩
  · rw [f4 yc i (by omega) (by omega) (by omega) (by omega) (by omega)]
    exact hY i hi
  intro M14 g1 g2 g3
  have hR14 : ∀ k, 1 ≤ k → k ≤ 60 → M14 (s + 6) k = rateByS d r y k := fun k k1 k2 => by
    have := g1 (k - 1) (by omega)
    rw [show k - 1 + 1 = k by omega] at this
    rw [this]
    unfold rateByS
    rw [hN]
  have fr : ∀ k j, (k < s ∨ s + 20 < k) → M14 k j = M k j := fun k j hk => by
    rw [g3 k j (by omega) (by omega), f4 k j (by omega) (by omega) (by omega) (by omega) (by omega)]
  refine ⟨fun M' x3 => ∃ b : Nat, x3 = (b : Int) ∧ (b : Int) ≤ n ∧ (∀ b', b' < b → (∀ k, 1 ≤ k → k ≤ 60 → M' (s + 8 + b') k = payT t b' (rateByS d r y) k) ∧ (∀ i, i < N → M' (s + 14 + b') i = payAt d t b' (rateByS d r y) i) ∧ M' (s + 19) b' = allS d t b' (rateByS d r y) N ∧ M' (s + 20) b' = lastS d t b' (rateByS d r y) N) ∧ (∀ k j, (k < s + 8 ∨ k = s + 13 ∨ s + 20 < k) → M' k j = M14 k j), fun _ x3 => (n - x3).toNat, ⟨0, rfl, by omega, fun b hb => by omega, fun _ _ _ => rfl⟩, ?_⟩
  rintro M1 x3 ⟨b, rfl, hb, e1, e2⟩
  unfold wp_X8_lay_B19
  dsimp only
  rw [e2 1 4 (by omega), fr 1 4 (by omega), hnb.1, w32n (show b < 2147483648 by omega), w32_id (z := n) (by omega) (by omega), rtv_1_3, (SC_rt hs).2.2.2.2.2.2.1, (SC_rt hs).2.2.2.2.2.1, ixn (show b < 2147483648 by omega)]
  refine ⟨fun u => ?_, fun u => ?_⟩
  · refine h M1 ⟨?_, fun i hi => ?_, fun k k1 k2 => ?_, fun b' hb' => ?_⟩ (fun k j hk => by rw [e2 k j (by omega), fr k j hk])
    · rw [e2 s 0 (by omega), g3 s 0 (by omega) (by omega), f1', hN]
    · rw [hN] at hi
      obtain ⟨a1, a2, a3⟩ := f2' i hi
      obtain ⟨z1, z2⟩ := hsz i hi
      obtain ⟨u1, u2, u3, u4, u5, u6, u7, u8, u9⟩ := hdR (dayS d i) z2
      rw [e2 (s + 1) i (by omega), e2 (s + 2) i (by omega), e2 (s + 3) i (by omega), e2 (s + 4) i (by omega), g2 i hi, g3 (s + 1) i (by omega) (by omega), g3 (s + 2) i (by omega) (by omega), g3 (s + 4) i (by omega) (by omega), hR14 _ z1 z2]
      exact ⟨a1, by rw [a2, u1], rfl, by rw [a3, u7]⟩
    · rw [e2 (s + 5) k (by omega), e2 (s + 6) k (by omega), hR14 k k1 k2, g3 (s + 5) k (by omega) (by omega)]
      have := f3' (k - 1) (by omega)
      rw [show k - 1 + 1 = k by omega] at this
      refine ⟨?_, rfl⟩
      rw [this]
      unfold rungForS
      rw [hN]
    · rw [hN]
      exact e1 b' (by omega)
  · have hbn : (b : Int) < n := by omega
    obtain ⟨hb5, w1, w2, w3, w4, w5, w6, w7, w8⟩ := hT b hbn
    rw [rt_8 b hb5, SC_rt7 hs b hb5]
    refine ⟨inbn LN_8 hb5, inbn (SC_ln hs).2.2.2.2.2.2.1 hb5, ?_⟩
    have tt : ∀ w, w < 7 → M1 (9 + b) w = t (5 * w + b) := fun w hw => by
      rw [e2 (9 + b) w (by omega), fr (9 + b) w (by omega)]
      exact w1 w hw
    have t0 := tt 0 (by omega)
    have t2 := tt 2 (by omega)
    have t3 := tt 3 (by omega)
    have t4 := tt 4 (by omega)
    have t5 := tt 5 (by omega)
    rw [show 5 * 0 + b = b by omega] at t0
    rw [show 5 * 2 + b = 10 + b by omega] at t2
    rw [show 5 * 3 + b = 15 + b by omega] at t3
    rw [show 5 * 4 + b = 20 + b by omega] at t4
    rw [show 5 * 5 + b = 25 + b by omega] at t5
    refine layPayings_gen (kind := t b) (coupon := t (10 + b)) (pay := t (25 + b)) (st := (t (15 + b)).toNat) (en := (t (20 + b)).toNat) (R := rateByS d r y) (by omega) (by omega) (SC_ln8 hs b hb5) (SC_ln hs).2.2.2.2.2.1 w2 (by omega) (by omega) w7 t0 t2 (by rw [t3]; omega) (by rw [t4]; omega) t5 (fun k k1 k2 => ?_) ?_
    · rw [e2 (s + 6) k (by omega), hR14 k k1 k2]
      exact ⟨rfl, hRR k k2⟩
    intro M43 p1 p2
    have hp : ∀ k, 1 ≤ k → k ≤ 60 → 0 ≤ payT t b (rateByS d r y) k ∧ payT t b (rateByS d r y) k ≤ 300 := fun k k1 k2 => payS_range w2 w4 (by omega) (by omega) w7 k1 (hRR k k2)
    refine gather_gen hs hb5 (cnt d) N (payT t b (rateByS d r y)) hn5 (fun i j => cnt_mono _) (fun k hk => ?_) (fun k k1 k2 => ⟨p1 k k1 k2, hp k k1 k2⟩) ?_
    · rw [p2 _ _ (by omega), e2 (s + 5) _ (by omega), g3 (s + 5) _ (by omega) (by omega)]
      exact f3' k hk
    intro M48 q1 q2 q3 q4
    refine ⟨⟨b + 1, rfl, by omega, fun b' hb' => ?_, fun k j hk => ?_⟩, by omega⟩
    · by_cases z : b' = b
      · subst z
        refine ⟨fun k k1 k2 => ?_, fun i hi => q1 i hi, by rw [q2, allS_eq], by rw [q3, lastS_eq]⟩
        rw [q4 _ _ (by omega) (by omega) (by omega)]
        exact p1 k k1 k2
      · obtain ⟨v1, v2, v3, v4⟩ := e1 b' (by omega)
        refine ⟨fun k k1 k2 => ?_, fun i hi => ?_, ?_, ?_⟩
        · rw [q4 _ _ (by omega) (by omega) (by omega), p2 _ _ (by omega)]
          exact v1 k k1 k2
        · rw [q4 _ _ (by omega) (by omega) (by omega), p2 _ _ (by omega)]
          exact v2 i hi
        · rw [q4 _ _ (by omega) (by omega) (by omega), p2 _ _ (by omega)]
          exact v3
        · rw [q4 _ _ (by omega) (by omega) (by omega), p2 _ _ (by omega)]
          exact v4
    · rw [q4 k j (by omega) (by omega) (by omega), p2 k j (by omega)]
      exact e2 k j hk
/-- whoever looks: the scene stands, the invariant stays, nothing behind the class's own changes -/
theorem look_ok {DK : Mem → Prop} {M : Mem} {Q : Mem → Prop} (hI : Inv DK M) (h : ∀ M' : Mem, Inv DK M' → SceneOK M' 27 (M' 190) (M' 191) (M' 192) (M' 193) noY (M' 189 3) → fb M' 0 5 = false → (∀ k j, ¬ (k = 0 ∧ (j = 5 ∨ j = 13)) → (k < 27 ∨ 47 < k) → M' k j = M k j) → Q M') : wp_X11_look 0 M Q := by
  obtain ⟨hB, hK, hR, hIm, hS, hN, hC⟩ := id hI
  unfold wp_X11_look
  refine ⟨fun q => h M hI (hC q).1 q (fun _ _ _ _ => rfl), fun q => ?_⟩
  rw [rtv_0_3, rtv_0_0, rtv_0_6]
  refine lay_ok (s := 27) (yc := 69) (y := noY) (Or.inl rfl) (Or.inl rfl) hB (fun i hi => ⟨hN i hi, noY_r i⟩) ?_
  intro M19 f1 f2
  rintro M24 rfl M29 rfl
  have fr : ∀ k j, ¬ (k = 0 ∧ (j = 5 ∨ j = 13)) → (k < 27 ∨ 47 < k) → st2 (st2 M19 0 13 (bz false)) 0 5 (bz false) k j = M k j := fun k j h1 h2 => by
    rw [st2_n _ _ (fun z => h1 ⟨z.1, Or.inl z.2⟩), st2_n _ _ (fun z => h1 ⟨z.1, Or.inr z.2⟩)]
    exact f2 k j (by omega)
  have row : ∀ k, 1 ≤ k → (k < 27 ∨ 47 < k) → st2 (st2 M19 0 13 (bz false)) 0 5 (bz false) k = M k := fun k h1 h2 => funext fun j => fr k j (fun z => by omega) h2
  have rs : ∀ k, k ≠ 0 → st2 (st2 M19 0 13 (bz false)) 0 5 (bz false) k = M19 k := fun k h1 => by rw [st2_off _ _ h1, st2_off _ _ h1]
  have e5 : fb (st2 (st2 M19 0 13 (bz false)) 0 5 (bz false)) 0 5 = false := fb_s _ _ _ _
  have e13 : fb (st2 (st2 M19 0 13 (bz false)) 0 5 (bz false)) 0 13 = false := by
    rw [fb_n _ _ (by decide)]
    exact fb_s _ _ _ _
  have sc : SceneOK (st2 (st2 M19 0 13 (bz false)) 0 5 (bz false)) 27 (M 190) (M 191) (M 192) (M 193) noY (M 189 3) := by
    unfold SceneOK at *
    obtain ⟨v1, v2, v3, v4⟩ := f1
    rw [rs 27 (by decide), rs (27 + 1) (by decide), rs (27 + 2) (by decide), rs (27 + 3) (by decide), rs (27 + 4) (by decide), rs (27 + 5) (by decide), rs (27 + 6) (by decide), rs (27 + 19) (by decide), rs (27 + 20) (by decide)]
    refine ⟨v1, v2, v3, fun b hb => ?_⟩
    rw [rs (27 + 8 + b) (by omega), rs (27 + 14 + b) (by omega)]
    exact v4 b hb
  refine h _ ⟨?_, ?_, ?_, ?_, ?_, ?_, ?_⟩ ?_ e5 fr
  · unfold InvB at *
    rw [row 3 (by decide) (by decide), row 5 (by decide) (by decide), row 7 (by decide) (by decide), row 1 (by decide) (by decide), row 190 (by decide) (by decide), row 191 (by decide) (by decide), row 192 (by decide) (by decide), row 193 (by decide) (by decide), row 189 (by decide) (by decide)]
    obtain ⟨p1, p2, p3, p4, p5, p6, p7, p8, p9⟩ := hB
    refine ⟨p1, p2, p3, p4, p5, p6, p7, p8, fun b hb => ?_⟩
    have := p9 b hb
    dsimp only at this ⊢
    rw [row (9 + b) (by omega) (by omega)]
    exact this
  · unfold InvK at *
    rw [row 2 (by decide) (by decide), row 4 (by decide) (by decide), row 6 (by decide) (by decide)]
    exact hK
  · unfold InvR at *
    rw [row 189 (by decide) (by decide), row 190 (by decide) (by decide), row 194 (by decide) (by decide), row 195 (by decide) (by decide)]
    exact hR
  · unfold InvI at *
    rw [fb_eq (fr 0 2 (by decide) (by decide)), fb_eq (fr 189 28 (by decide) (by decide))]
    refine ⟨hIm.1, fun q => ?_⟩
    obtain ⟨q1, q2, q3, q4, q5, q6, q7, q8, q9⟩ := hIm.2 q
    rw [row 16 (by decide) (by decide), row 18 (by decide) (by decide), row 20 (by decide) (by decide), row 14 (by decide) (by decide), row 208 (by decide) (by decide), row 189 (by decide) (by decide)]
    refine ⟨q1, q2, q3, q4, q5, q6, q7, q8, fun b hb => ?_⟩
    have := q9 b hb
    dsimp only at this ⊢
    have hb5 : b < 5 := by omega
    rw [row (22 + b) (by omega) (by omega)]
    exact this
  · unfold InvS at *
    intro j hj
    rw [row 209 (by decide) (by decide), row 210 (by decide) (by decide), row 211 (by decide) (by decide), row (181 + 2 * j) (by omega) (by omega), row (182 + 2 * j) (by omega) (by omega)]
    exact hS j hj
  · unfold InvN at *
    rw [row 69 (by decide) (by decide)]
    exact hN
  · intro _
    refine ⟨?_, fun z => by rw [e13] at z; cases z⟩
    rw [row 190 (by decide) (by decide), row 191 (by decide) (by decide), row 192 (by decide) (by decide), row 193 (by decide) (by decide), row 189 (by decide) (by decide)]
    exact sc
  · rw [row 190 (by decide) (by decide), row 191 (by decide) (by decide), row 192 (by decide) (by decide), row 193 (by decide) (by decide), row 189 (by decide) (by decide)]
    exact sc
