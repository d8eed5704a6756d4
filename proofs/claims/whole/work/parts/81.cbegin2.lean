def KeyP (N : Nat) (lm : Nat → Int) (k H : Nat) (key : Nat → Nat) : Prop :=
  H ≤ N + k ∧ N ≤ H ∧ (∀ r, r < H → key r < 9 ∧ onS N lm (key r) = true ∧ key r < 5 + k) ∧ (∀ r r', r < H → r' < H → key r = key r' → r = r') ∧ (∀ q, q < 9 → onS N lm q = true → q < 5 + k → ∃ r, r < H ∧ key r = q) ∧ ∀ r, r < N → key r = r
theorem onS_lo {N : Nat} {lm : Nat → Int} {k : Nat} (h : k < 5) : onS N lm k = decide (k < N) := by unfold onS; rw [if_pos h]
theorem onS_hi {N : Nat} {lm : Nat → Int} {i : Nat} (h : i < 4) : onS N lm (5 + i) = decide (i + 1 < N ∧ lm i ≠ -1) := by
  unfold onS
  rw [if_neg (by omega), if_pos (by omega), show 5 + i - 5 = i by omega]
theorem KeyP_0 {N : Nat} (hN : N ≤ 5) (lm : Nat → Int) : KeyP N lm 0 N (fun r => r) := by
  refine ⟨by omega, Nat.le_refl _, fun r hr => ⟨?_, ?_, ?_⟩, fun r r' _ _ e => e, fun q hq o h => ⟨q, ?_, rfl⟩, fun _ _ => rfl⟩
  · dsimp only; omega
  · dsimp only
    rw [onS_lo (by omega)]
    exact decide_eq_true hr
  · dsimp only; omega
  · rw [onS_lo (by omega)] at o
    exact of_decide_eq_true o
theorem KeyP_skip {N : Nat} {lm : Nat → Int} {k H : Nat} {key : Nat → Nat} (K : KeyP N lm k H key) (h : ¬ (k + 1 < N ∧ lm k ≠ -1)) : KeyP N lm (k + 1) H key := by
  obtain ⟨k1, k2, k3, k4, k5, k6⟩ := K
  refine ⟨by omega, k2, fun r hr => ⟨(k3 r hr).1, (k3 r hr).2.1, by have := (k3 r hr).2.2; omega⟩, k4, fun q hq o hq2 => ?_, k6⟩
  rcases Nat.lt_or_ge q (5 + k) with z | z
  · exact k5 q hq o z
  · have : q = 5 + k := by omega
    subst this
    rw [onS_hi (by omega)] at o
    exact absurd (of_decide_eq_true o) h
theorem KeyP_add {N : Nat} (hN : N ≤ 5) {lm : Nat → Int} {k H : Nat} {key : Nat → Nat} (K : KeyP N lm k H key) (h : k + 1 < N ∧ lm k ≠ -1) : KeyP N lm (k + 1) (H + 1) (fun r => if r = H then 5 + k else key r) := by
  obtain ⟨k1, k2, k3, k4, k5, k6⟩ := K
  refine ⟨by omega, by omega, fun r hr => ?_, fun r r' hr hr' => ?_, fun q hq o hq2 => ?_, fun r hr => ?_⟩
  · dsimp only
    by_cases z : r = H
    · rw [if_pos z, onS_hi (by omega)]
      exact ⟨by omega, decide_eq_true h, by omega⟩
    · rw [if_neg z]
      obtain ⟨a, b, c⟩ := k3 r (by omega)
      exact ⟨a, b, by omega⟩
  · dsimp only
    by_cases z : r = H <;> by_cases z' : r' = H
    · omega
    · rw [if_pos z, if_neg z']
      have := (k3 r' (by omega)).2.2
      omega
    · rw [if_neg z, if_pos z']
      have := (k3 r (by omega)).2.2
      omega
    · rw [if_neg z, if_neg z']
      exact k4 r r' (by omega) (by omega)
  · rcases Nat.lt_or_ge q (5 + k) with z | z
    · obtain ⟨r, hr, e⟩ := k5 q hq o z
      exact ⟨r, by omega, by dsimp only; rw [if_neg (by omega)]; exact e⟩
    · exact ⟨H, by omega, by dsimp only; rw [if_pos rfl]; omega⟩
  · dsimp only
    rw [if_neg (by omega)]
    exact k6 r hr
theorem KeyP_end {N n : Nat} (hn : n ≤ 5) {lm : Nat → Int} {H : Nat} {key : Nat → Nat} (hN : N ≤ 5) (K : KeyP N lm N H key) : KeyOK n H (onS N lm) key := by
  obtain ⟨k1, k2, k3, k4, k5, k6⟩ := K
  refine ⟨?_, hn, fun r hr => ⟨(k3 r hr).1, (k3 r hr).2.1⟩, k4, fun k hk o => k5 k hk o ?_, rfl⟩
  · -- at most nine: the places are different and below nine
    rcases Nat.lt_or_ge H 10 with q | q
    · omega
    · exfalso
      obtain ⟨a, b, h1, h2, h3⟩ := pigeon 9 key (fun i hi => (k3 i (by omega)).1)
      have := k4 a b (by omega) (by omega) h3
      omega
  · rcases Nat.lt_or_ge k 5 with z | z
    · omega
    · obtain ⟨i, rfl⟩ : ∃ i, k = 5 + i := ⟨k - 5, by omega⟩
      rw [onS_hi (by omega)] at o
      have := (of_decide_eq_true o).1
      omega
theorem st_num (n : Nat) (rr : F1) (v : Nat → Nat → Int) (du lm pr : Nat → Int) (k : Nat) : (startQ n rr v du lm pr).num k = if k < 5 then 10 + k else if k < 9 then 20 + (k - 5) else 99 := rfl
theorem st_B (n : Nat) (rr : F1) (v : Nat → Nat → Int) (du lm pr : Nat → Int) (k : Nat) : (startQ n rr v du lm pr).B k = if k < 5 then carryC rr (nego du) k else if k < 9 then ob addq ((carryC rr (nego du) (k - 5)).map negq) (some (lm (k - 5), 1)) else some (0, 1) := rfl
theorem st_S (n : Nat) (rr : F1) (v : Nat → Nat → Int) (du lm pr : Nat → Int) (k j : Nat) : (startQ n rr v du lm pr).S k j = if n ≤ j then some (0, 1) else if k < 5 then carryC rr (v j) k else if k < 9 then (carryC rr (v j) (k - 5)).map negq else some (pr j, 1) := rfl
theorem st_so (n : Nat) (rr : F1) (v : Nat → Nat → Int) (du lm pr : Nat → Int) (j : Nat) : (startQ n rr v du lm pr).so j = j := rfl
theorem RQ_carry {n : Nat} {rr : F1} {v : Nat → Nat → Int} {du lm pr : Nat → Int} {M : Mem} {a i : Nat} (h : i < 5) : RQ M a (carryC rr (nego du) i) (fun j => if n ≤ j then some (0, 1) else carryC rr (v j) i) ↔ RQ M a ((startQ n rr v du lm pr).B i) ((startQ n rr v du lm pr).S i) := by
  have e1 : (startQ n rr v du lm pr).B i = carryC rr (nego du) i := by rw [st_B, if_pos h]
  have e2 : (startQ n rr v du lm pr).S i = (fun j => if n ≤ j then some (0, 1) else carryC rr (v j) i) := by
    funext j
    rw [st_S, if_pos h]
  rw [e1, e2]
theorem begin_ok {N n : Nat} {rr : F1} {v : Nat → Nat → Int} {du lm pr : Nat → Int} (hg : DatR N n rr v du lm pr) {M : Mem} (hc : DatC N n rr v du lm M) (h14 : M 1 4 = (n : Int)) (hpr : ∀ j, j < n → M (9 + j) 1 = pr j) {Q : Mem → Prop} (h : ∀ (M' : Mem) (H : Nat) (key : Nat → Nat), KeyOK n H (onS N lm) key → DicC n H key M' (startQ n rr v du lm pr) → (∀ k j, ¬ (87 ≤ k ∧ k < 174) → M' k j = M k j) → Q M') : wp_X3_begin 87 1 27 M Q := by
  obtain ⟨hN, hn, hd, hp⟩ := id hg
  unfold wp_X3_begin
  rintro M5 rfl
  rw [rt_87.1]
  refine X7_begin_ok IsRw_88 (fun M1 a0 a1 a2 => ?_)
  have f4 : M1 87 4 = (n : Int) := by rw [a2 87 4 (by decide), st2_s]; exact h14
  have fr1 : ∀ k j, ¬ (87 ≤ k ∧ k < 174) → M1 k j = M k j := fun k j q => by rw [a2 k j (by omega), st2_n _ _ (by omega)]
  -- the cost
  refine ⟨fun M' x3 => ∃ k : Nat, x3 = (k : Int) ∧ k ≤ n ∧ M' 87 4 = (n : Int) ∧ FR M' 89 (some (0, 1)) ∧ (∀ j, j < k → M' 97 j = ((j : Nat) : Int) ∧ FR M' (91 + j) (some (pr j, 1))) ∧ (∀ j, k ≤ j → j < 5 → FR M' (91 + j) (some (0, 1))) ∧ ∀ k j, ¬ (87 ≤ k ∧ k < 174) → M' k j = M k j, fun _ x3 => ((n : Int) - x3).toNat, ⟨0, rfl, Nat.zero_le _, f4, a1.1, fun _ q => absurd q (Nat.not_lt_zero _), fun j _ hj => a1.2 j hj, fr1⟩, ?_⟩
  rintro M2 x3 ⟨k, rfl, hk, b1, b2, b3, b4, b5⟩
  unfold wp_X3_begin_B18
  dsimp only
  rw [b1, w32n (show k < 2147483648 by omega), w32n (show n < 2147483648 by omega), ixn (show k < 2147483648 by omega), rt_87.2.2.1, rt_87.1, rw_88.2.1]
  refine ⟨fun u => ?_, fun u => ⟨inbn LN_97 (by omega), ?_⟩⟩
  case refine_2 =>
    rintro M32 rfl
    have k5 : k < 5 := by omega
    have kn : k < n := by omega
    have e13 : rt 1 3 = 8 := by decide +kernel
    rw [rw_88.2.2.2 k k5, e13, rt_8 k k5]
    refine ⟨inbn LN_90 k5, inbn LN_8 k5, ?_⟩
    have hpk := hp k kn
    rw [st2_n _ _ (by omega), b5 _ _ (by omega), hpr k kn, int32 (z := pr k) (by omega)]
    refine become_int_ok (smallL (by omega)) (fun M3 c1 c2 => ?_)
    refine ⟨⟨k + 1, rfl, kn, ?_, ?_, fun j hj => ?_, fun j j1 j2 => ?_, fun a j q => ?_⟩, by omega⟩
    · rw [c2 _ _ (by omega), st2_n _ _ (by omega)]; exact b1
    · exact FR_same b2 (fun j => by rw [c2 _ _ (by omega), st2_n _ _ (by omega)])
    · by_cases y : j = k
      · subst y
        exact ⟨by rw [c2 _ _ (by omega), st2_s], c1⟩
      · obtain ⟨d1, d2⟩ := b3 j (by omega)
        exact ⟨by rw [c2 _ _ (by omega), st2_n _ _ (by omega)]; exact d1, FR_same d2 (fun c => by rw [c2 _ _ (by omega), st2_n _ _ (by omega)])⟩
    · exact FR_same (b4 j (by omega) j2) (fun c => by rw [c2 _ _ (by omega), st2_n _ _ (by omega)])
    · rw [c2 _ _ (by omega), st2_n _ _ (by omega)]; exact b5 a j q
  have : k = n := by omega
  subst this
  rintro M67 rfl
  have cost : RQ M2 88 ((startQ k rr v du lm pr).B 9) ((startQ k rr v du lm pr).S 9) := by
    refine ⟨b2, fun j hj => ?_⟩
    rw [st_S]
    by_cases q : k ≤ j
    · rw [if_pos q]; exact b4 j q hj
    · rw [if_neg q]; exact (b3 j (by omega)).2
  -- the carries
  refine ⟨fun M' x3 => ∃ i : Nat, x3 = (i : Int) ∧ i ≤ N ∧ M' 87 4 = (k : Int) ∧ M' 87 2 = (N : Int) ∧ RQ M' 88 ((startQ k rr v du lm pr).B 9) ((startQ k rr v du lm pr).S 9) ∧ (∀ j, j < k → M' 97 j = ((j : Nat) : Int)) ∧ (∀ r, r < i → M' (102 + 8 * r) 0 = ((10 + r : Nat) : Int) ∧ RQ M' (102 + 8 * r) (carryC rr (nego du) r) (fun j => if k ≤ j then some (0, 1) else carryC rr (v j) r)) ∧ ∀ k j, ¬ (87 ≤ k ∧ k < 174) → M' k j = M k j, fun _ x3 => ((N : Int) - x3).toNat, ⟨0, rfl, Nat.zero_le _, ?_, ?_, ?_, fun j hj => ?_, fun _ q => absurd q (Nat.not_lt_zero _), fun a j q => ?_⟩, ?_⟩
  · rw [st2_n _ _ (by omega)]; exact b1
  · rw [st2_s, b5 27 0 (by decide)]; exact hc.1
  · exact RQ_same cost (fun a j q1 q2 => st2_n _ _ (by omega))
  · rw [st2_n _ _ (by omega)]; exact (b3 j hj).1
  · rw [st2_n _ _ (by omega)]; exact b5 a j q
  clear b1 b2 b3 b4 b5 cost M2 fr1 f4 a0 a1 a2 M1
  rintro M2 x3 ⟨i, rfl, hi, b1, b2, b3, b4, b5, b6⟩
  have hc2 : DatC N k rr v du lm M2 := DatC_same hn hc (fun a j q1 q2 => b6 a j (by omega))
  unfold wp_X3_begin_B72
  dsimp only
  rw [hc2.1, w32n (show i < 2147483648 by omega), w32n (show N < 2147483648 by omega)]
  refine ⟨fun u => ?_, fun u => ?_⟩
  case refine_2 =>
    refine beginCarry_ok hg (show i < N by omega) hc2 b1 (fun z => (b5 (i - 1) (by omega)).2) (fun M3 c1 c2 c3 => ?_)
    refine ⟨⟨i + 1, rfl, by omega, ?_, ?_, ?_, fun j hj => ?_, fun r hr => ?_, fun a j q => ?_⟩, by omega⟩
    · rw [c3 87 4 (by omega) (by decide) (by decide)]; exact b1
    · rw [c3 87 2 (by omega) (by decide) (by decide)]; exact b2
    · exact RQ_same b3 (fun a j q1 q2 => c3 a j (by omega) (by omega) (by omega))
    · rw [c3 97 j (by omega) (by decide) (by decide)]; exact b4 j hj
    · by_cases y : r = i
      · subst y; exact ⟨c1, c2⟩
      · obtain ⟨d1, d2⟩ := b5 r (by omega)
        exact ⟨by rw [c3 _ 0 (by omega) (by omega) (by omega)]; exact d1, RQ_same d2 (fun a j q1 q2 => c3 a j (by omega) (by omega) (by omega))⟩
    · rw [c3 a j (by omega) (by omega) (by omega)]; exact b6 a j q
  have : i = N := by omega
  subst this
  -- the rooms
  refine ⟨fun M' x3 => ∃ (q H : Nat) (key : Nat → Nat), x3 = (q : Int) ∧ q ≤ i ∧ KeyP i lm q H key ∧ DicC k H key M' (startQ k rr v du lm pr) ∧ ∀ k j, ¬ (87 ≤ k ∧ k < 174) → M' k j = M k j, fun _ x3 => ((i : Int) - x3).toNat, ⟨0, i, fun r => r, rfl, Nat.zero_le _, KeyP_0 hN lm, ⟨b1, b2, fun r hr => ⟨?_, (RQ_carry (i := r) (show r < 5 by omega)).mp (b5 r hr).2⟩, b3, b4⟩, b6⟩, ?_⟩
  · dsimp only
    rw [(b5 r hr).1, st_num, if_pos (show r < 5 by omega)]
  clear b1 b2 b3 b4 b5 b6 hc2 M2
  rintro M2 x3 ⟨q, H, key, rfl, hq, K, ⟨b1, b2, b3, b4, b5⟩, b6⟩
  obtain ⟨k1, k2, k3, k4, k5, k6⟩ := id K
  have hc2 : DatC i k rr v du lm M2 := DatC_same hn hc (fun a j q1 q2 => b6 a j (by omega))
  unfold wp_X3_begin_B94 wp_X3_begin_b192
  dsimp only
  rw [hc2.1, w32n (show q < 2147483648 by omega), w32n (show i < 2147483648 by omega), b2, w32n (show H < 2147483648 by omega), wl_9]
  refine ⟨fun u => ?_, fun u => ?_⟩
  · have : q = i := by omega
    subst this
    exact h M2 H key (KeyP_end hn hN K) ⟨b1, b2, b3, b4, b5⟩ b6
  have qi : q < i := by omega
  obtain ⟨e1, e2, e3, e4⟩ := hc2.2 q qi
  obtain ⟨hr1, hd1, hl1, hv1⟩ := hd q qi
  have skip : ¬ (q + 1 < i ∧ lm q ≠ -1) → (∃ (q' H : Nat) (key : Nat → Nat), (q : Int) + 1 = (q' : Int) ∧ q' ≤ i ∧ KeyP i lm q' H key ∧ DicC k H key M2 (startQ k rr v du lm pr) ∧ ∀ k j, ¬ (87 ≤ k ∧ k < 174) → M2 k j = M k j) ∧ ((i : Int) - ((q : Int) + 1)).toNat < ((i : Int) - (q : Int)).toNat := fun z => ⟨⟨q + 1, H, key, rfl, qi, KeyP_skip K z, ⟨b1, b2, b3, b4, b5⟩, b6⟩, by omega⟩
  unfold wp_X8_isLimited
  rw [hc2.1, w32_id (z := (i : Int) - 1) (by omega) (by omega), w32n (show q < 2147483648 by omega), rt_27x.2.2.1, ixn (show q < 2147483648 by omega), e3, int32 (z := lm q) (by omega), wm_1]
  refine ⟨fun z => ⟨fun _ => skip (by omega), fun z => (by cases z)⟩, fun z => ⟨inbn LN_31 (by omega), fun z2 => ⟨fun _ => skip (by omega), fun z => (by cases z)⟩, fun z2 => ⟨fun z => (by cases z), fun _ => ⟨fun z3 => absurd z3 (by omega), fun _ => ?_⟩⟩⟩⟩
  have lim : q + 1 < i ∧ lm q ≠ -1 := ⟨by omega, z2⟩
  have H9 : H < 9 := by omega
  rw [rt_87.2.1]
  refine ⟨inbn LN_96 H9, ?_⟩
  rintro M137 rfl
  rw [ixn (show H < 2147483648 by omega), rt_96 H H9, rt_96 q (by omega), (IsRw_p H9).1, rt_87.2.2.2.2.1]
  have r0 := (b3 q (by omega)).2
  rw [k6 q qi] at r0
  have r0 := (RQ_carry (n := k) (pr := pr) (lm := lm) (show q < 5 by omega)).mpr r0
  refine X7_begin_ok (IsRw_p H9) (fun M3 c0 c1 c2 => ⟨inbn LN_96 (by omega), ?_⟩)
  refine X7_become_ok (IsRw_p H9) (IsRw_p (show q < 9 by omega)) (by omega) (RQ_same r0 (fun a j q1 q2 => by rw [c2 a j (by omega), st2_n _ _ (by omega)])) (fun M4 d1 d2 => ?_)
  refine X7_negate_ok (IsRw_p H9) d1 (fun M5 g1 g2 => ⟨inbn LN_31 (by omega), ?_⟩)
  have fr5 : ∀ a j, ¬ (102 + 8 * H ≤ a ∧ a < 102 + 8 * H + 8) → ¬ (a = 87 ∧ j = 2) → M5 a j = M2 a j := fun a j q1 q2 => by rw [g2 a j (by omega), d2 a j (by omega), c2 a j q1, st2_n _ _ q2]
  rw [fr5 31 q (by omega) (by omega), e3, int32 (z := lm q) (by omega)]
  have hrr : ∀ i', i' < i → 0 ≤ rr i' ∧ rr i' ≤ 9 := fun i' hi => (hd i' hi).1
  have hdu : ∀ i', i' < i → -1000000 < nego du i' ∧ nego du i' < 1000000 := fun i' hi => by
    have := (hd i' hi).2.1
    unfold nego
    omega
  refine become_int_ok (smallL (by omega)) (fun M6 m1 m2 => ?_)
  refine add_ok (map_neg_Fr (carryC_Fr hrr hdu q qi)) (int_Fr (by omega)) (FR_same g1.1 (fun j => m2 _ j (by omega))) m1 (fun M7 n1 n2 => ?_)
  have fr7 : ∀ a j, ¬ (102 + 8 * H ≤ a ∧ a < 102 + 8 * H + 8) → ¬ (a = 87 ∧ j = 2) → a ≠ 99 → M7 a j = M2 a j := fun a j q1 q2 q3 => by rw [n2 a j (by omega), m2 a j q3]; exact fr5 a j q1 q2
  refine ⟨⟨q + 1, H + 1, _, rfl, qi, KeyP_add hN K lim, ⟨?_, ?_, fun r hr => ?_, ?_, fun j hj => ?_⟩, fun a j z => ?_⟩, by omega⟩
  · rw [fr7 87 4 (by omega) (by decide) (by decide)]; exact b1
  · rw [n2 87 2 (by omega), m2 87 2 (by omega), g2 87 2 (by omega), d2 87 2 (by omega), c2 87 2 (by omega), st2_s]
    omega
  · dsimp only
    by_cases y : r = H
    · subst y
      rw [if_pos rfl]
      refine ⟨?_, ?_⟩
      · rw [n2 _ 0 (by omega), m2 _ 0 (by omega), g2 _ 0 (by omega), d2 _ 0 (by omega), c0, st_num, if_neg (by omega), if_pos (by omega)]
        omega
      · refine ⟨?_, fun j hj => ?_⟩
        · rw [st_B, if_neg (by omega), if_pos (by omega), show 5 + q - 5 = q by omega]
          exact n1
        · have e := FR_same (g1.2 j hj) (fun c => show M7 _ c = M5 _ c by rw [n2 _ c (by omega), m2 _ c (by omega)])
          rw [st_S, if_neg (show ¬ 5 + q < 5 by omega), if_pos (show 5 + q < 9 by omega), show 5 + q - 5 = q by omega]
          dsimp only at e
          by_cases w : k ≤ j
          · rw [if_pos w] at e ⊢
            exact e
          · rw [if_neg w] at e ⊢
            exact e
    · rw [if_neg y]
      obtain ⟨p1, p2⟩ := b3 r (by omega)
      exact ⟨by rw [fr7 _ 0 (by omega) (by omega) (by omega)]; exact p1, RQ_same p2 (fun a j z1 z2 => fr7 a j (by omega) (by omega) (by omega))⟩
  · exact RQ_same b4 (fun a j z1 z2 => fr7 a j (by omega) (by omega) (by omega))
  · rw [fr7 97 j (by omega) (by omega) (by omega)]; exact b5 j hj
  · rw [fr7 a j (by omega) (by omega) (by omega)]; exact b6 a j z
