/-! the reference begins -/
theorem KeyG_congr {on : Nat → Bool} {P P' : Nat → Prop} {H : Nat} {key : Nat → Nat} (K : KeyG on P H key) (h : ∀ q, q < 9 → on q = true → (P q ↔ P' q)) : KeyG on P' H key :=
  ⟨fun r hr => ⟨(K.1 r hr).1, (K.1 r hr).2.1, (h _ (K.1 r hr).1 (K.1 r hr).2.1).mp (K.1 r hr).2.2⟩, K.2.1, fun q hq o z => K.2.2 q hq o ((h q hq o).mpr z)⟩
def PdS (i q : Nat) : Prop := q < i ∨ (5 ≤ q ∧ q < 5 + i)
def RowsR (n H : Nat) (key : Nat → Nat) (M : Mem) (D : QD) : Prop := ∀ r, r < H → M 196 r = (D.num (key r) : Int) ∧ RwR n M r (D.B (key r)) (D.S (key r))
theorem RowsR_same {n H : Nat} {key : Nat → Nat} {M M' : Mem} {D : QD} (h : RowsR n H key M D) (hn : n ≤ 5) (e1 : ∀ a c, a = 196 ∨ a = 198 ∨ a = 199 → c < H → M' a c = M a c) (e2 : ∀ a c, a = 200 ∨ a = 201 → c < 5 * H → M' a c = M a c) : RowsR n H key M' D := fun r hr => by
  obtain ⟨a, b, c⟩ := h r hr
  exact ⟨by rw [e1 196 r (by omega) hr]; exact a, CQ_same b (e1 _ _ (by omega) hr) (e1 _ _ (by omega) hr), fun j hj => CQ_same (c j hj) (e2 _ _ (by omega) (by omega)) (e2 _ _ (by omega) (by omega))⟩
theorem RowsR_add {n H : Nat} {key : Nat → Nat} {M : Mem} {D : QD} (h : RowsR n H key M D) {k0 : Nat} (h1 : M 196 H = (D.num k0 : Int)) (h2 : RwR n M H (D.B k0) (D.S k0)) : RowsR n (H + 1) (fun r => if r = H then k0 else key r) M D := fun r hr => by
  dsimp only
  by_cases q : r = H
  · subst q
    rw [if_pos rfl]
    exact ⟨h1, h2⟩
  · rw [if_neg q]
    exact h r (by omega)
theorem begins_ok {M : Mem} (hR : RefOK M noY) (hf : fb M 189 8 = false) {N n : Nat} {rr : F1} {v : Nat → Nat → Int} {du lm pr : Nat → Int} (hg : DatR N n rr v du lm pr) (hN : N = rungs (M 190)) (hn : M 189 3 = (n : Int)) (hrr : rr = rrS (M 190) (M 191) noY) (hv : ∀ j, j < n → ∀ i, i < N → v j i = payAt (M 190) (M 193) j (rateByS (M 190) (M 191) noY) i) (hdu : ∀ i, i < N → du i = M 190 (dayS (M 190) i)) (hlm : ∀ i, i < N → lm i = M 192 (dayS (M 190) i) - 1) (hpr : ∀ j, j < n → pr j = M 193 (5 + j)) {Q : Mem → Prop} (h : ∀ (M' : Mem) (H : Nat) (key : Nat → Nat), KeyOK n H (onS N lm) key → DicR n H key M' (startQ n rr v du lm pr) → fb M' 189 8 = false → FrZ M M' → Q M') : wp_X12_begins 189 M Q := by
  obtain ⟨hN5, hn5, hd, hp⟩ := id hg
  have hrr' : ∀ i, i < N → 0 ≤ rr i ∧ rr i ≤ 9 := fun i hi => (hd i hi).1
  have cfb : ∀ j, j ≤ n → ∀ i, i < N → -20000 ≤ cfS n v du j i ∧ cfS n v du j i ≤ 20000 := fun j hj i hi => by
    unfold cfS
    by_cases q : j = n
    · rw [if_pos q]
      have := (hd i hi).2.1
      unfold nego
      omega
    · rw [if_neg q]
      have := (hd i hi).2.2.2 j (by omega)
      omega
  have cF : ∀ j, j ≤ n → ∀ i, i < N → FrO (carryC rr (cfS n v du j) i) := fun j hj => carryC_Fr hrr' (fun i hi => by have := cfb j hj i hi; omega)
  have cS : ∀ j, j ≤ n → ∀ i, i < N → smallF 10000000000 256 (carryC rr (cfS n v du j) i) := fun j hj i hi => carry_small hN5 hrr' (cfb j hj) hi
  have cvF : ∀ j, j ≤ n → ∀ i, i ≤ N → FrO (cvS rr (cfS n v du j) i) := fun j hj i hi => by
    cases i with
    | zero => exact int_Fr (by decide)
    | succ i => exact cF j hj i hi
  unfold wp_X12_begins
  rintro M0 rfl
  refine ⟨fun M' x1 => ∃ k : Nat, x1 = (k : Int) ∧ k ≤ n + 1 ∧ FrZ M M' ∧ fb M' 189 8 = false ∧ M' 189 11 = 0 ∧ ∀ j, j < k → CQ M' 202 203 j (some (0, 1)), fun _ x1 => ((n : Int) + 1 - x1).toNat, ⟨0, rfl, Nat.zero_le _, fun k c q1 _ => st2_n _ _ (by omega), by rw [fb_n _ _ (by omega)]; exact hf, st2_s _ _ _ _, fun _ q => absurd q (Nat.not_lt_zero _)⟩, ?_⟩
  rintro M1 x1 ⟨k, rfl, hk, f1, f2, f3, f4⟩
  unfold wp_X12_begins_B7
  dsimp only
  have g3 : M1 189 3 = (n : Int) := by rw [f1 189 3 (by omega) (by omega)]; exact hn
  rw [g3, w32n (show n < 2147483648 by omega), w32n (show k < 2147483648 by omega), rt_189.2.2.2.2.2.2.1, rt_189.2.2.2.2.2.2.2, ixn (show k < 2147483648 by omega)]
  refine ⟨fun u => ?_, fun u => ⟨inbn LN_202 (by omega), ?_⟩⟩
  case refine_2 =>
    rintro M2 rfl
    refine ⟨inbn LN_203 (by omega), ?_⟩
    rintro M3 rfl
    refine ⟨⟨k + 1, rfl, by omega, fun a c q1 q2 => ?_, ?_, ?_, fun j hj => ?_⟩, by omega⟩
    · rw [st2_n _ _ (by omega), st2_n _ _ (by omega)]; exact f1 a c q1 q2
    · rw [fb_n _ _ (by omega), fb_n _ _ (by omega)]; exact f2
    · rw [st2_n _ _ (by omega), st2_n _ _ (by omega)]; exact f3
    · by_cases e : j = k
      · subst e
        exact ⟨_, rfl, by rw [st2_n _ _ (by omega), st2_s], st2_s _ _ _ _⟩
      · exact CQ_same (f4 j (by omega)) (by rw [st2_n _ _ (by omega), st2_n _ _ (by omega)]) (by rw [st2_n _ _ (by omega), st2_n _ _ (by omega)])
  have k0 : k = n + 1 := by omega
  obtain ⟨D, hD⟩ : ∃ D, D = startQ n rr v du lm pr := ⟨_, rfl⟩
  rw [← hD] at h
  -- the rungs
  refine ⟨fun M' x1 => ∃ (i H : Nat) (key : Nat → Nat), x1 = (i : Int) ∧ i ≤ N ∧ H ≤ 2 * i ∧ FrZ M M' ∧ fb M' 189 8 = false ∧ M' 189 11 = (H : Int) ∧ (∀ j, j ≤ n → CQ M' 202 203 j (cvS rr (cfS n v du j) i)) ∧ KeyG (onS N lm) (PdS i) H key ∧ RowsR n H key M' D, fun _ x1 => ((N : Int) - x1).toNat, ⟨0, 0, fun r => r, rfl, Nat.zero_le _, by omega, f1, f2, f3, fun j hj => f4 j (by omega), KeyG_congr (KeyG_0 _ _) (fun q hq _ => ?_), fun r hr => absurd hr (Nat.not_lt_zero _)⟩, ?_⟩
  · unfold PdS
    exact ⟨fun z => z.elim, fun z => by omega⟩
  clear f1 f2 f3 f4 g3 k0 hk
  rintro M2 x1 ⟨i, H, key, rfl, hi, hH, b1, b2, b3, b4, K, b5⟩
  obtain ⟨r1, r2, r3, r4, r5, r6, r7⟩ := FrZ_ref hR b1
  have h5 : M 189 5 = (N : Int) := by rw [hN]; exact hR.2.2.1
  unfold wp_X12_begins_B37
  dsimp only
  rw [r7, h5, w32n (show N < 2147483648 by omega), w32n (show i < 2147483648 by omega), rt_189.2.2.1, rt_189.2.2.2.1]
  refine ⟨fun u => ?_, fun u => ?_⟩
  · -- the cost
    have : i = N := by omega
    subst this
    have i9 : ix 9 = 9 := by decide
    rw [i9]
    refine ⟨inbz LN_198 (by decide) (by decide), ?_⟩
    rintro M3 rfl
    refine ⟨inbz LN_199 (by decide) (by decide), ?_⟩
    rintro M4 rfl
    refine ⟨fun M' x1 => ∃ k : Nat, x1 = (k : Int) ∧ k ≤ n ∧ FrZ M M' ∧ fb M' 189 8 = false ∧ M' 189 11 = (H : Int) ∧ RowsR n H key M' D ∧ CQ M' 198 199 9 (some (0, 1)) ∧ ∀ j, j < k → M' 197 j = (j : Int) ∧ CQ M' 200 201 (45 + j) (some (pr j, 1)), fun _ x1 => ((n : Int) - x1).toNat, ⟨0, rfl, Nat.zero_le _, fun a c q1 q2 => ?_, ?_, ?_, ?_, ⟨_, rfl, ?_, st2_s _ _ _ _⟩, fun _ q => absurd q (Nat.not_lt_zero _)⟩, ?_⟩
    · rw [st2_n _ _ (by omega), st2_n _ _ (by omega)]; exact b1 a c q1 q2
    · rw [fb_n _ _ (by omega), fb_n _ _ (by omega)]; exact b2
    · rw [st2_n _ _ (by omega), st2_n _ _ (by omega)]; exact b3
    · have h9 := (KeyG_end K hn5 rfl (fun q hq o => by
        unfold PdS
        rcases onS_cases o with w | ⟨i', w⟩ | w <;> omega)).1
      exact RowsR_same b5 hn5 (fun a c q1 q2 => by rw [st2_n _ _ (by omega), st2_n _ _ (by omega)]) (fun a c q1 q2 => by rw [st2_n _ _ (by omega), st2_n _ _ (by omega)])
    · rw [st2_n _ _ (by omega), st2_s]
    have KO := KeyG_end K hn5 (show onS i lm 9 = true from rfl) (fun q hq o => by
      unfold PdS
      rcases onS_cases o with w | ⟨i', w⟩ | w <;> omega)
    have H9 := KO.1
    clear b1 b2 b3 b4 b5 r1 r2 r3 r4 r5 r6 r7
    rintro M5 x1 ⟨k, rfl, hk, b1, b2, b3, b5, b6, b7⟩
    have g3 : M5 189 3 = (n : Int) := by rw [b1 189 3 (by omega) (by omega)]; exact hn
    have e45 : (45 : Int) + (k : Int) = ((45 + k : Nat) : Int) := by omega
    unfold wp_X12_begins_B220
    dsimp only
    rw [g3, w32n (show n < 2147483648 by omega), w32n (show k < 2147483648 by omega), e45, rt_189.2.1, rt_189.2.2.2.2.1, rt_189.2.2.2.2.2.1, ixn (show k < 2147483648 by omega), ixn (show 45 + k < 2147483648 by omega)]
    refine ⟨fun u => ?_, fun u => ⟨inbn LN_197 (by omega), ?_⟩⟩
    · have : k = n := by omega
      subst this
      refine h M5 H key KO ⟨g3, b3, b5, ⟨?_, fun j hj => ?_⟩, fun j hj => ?_⟩ b2 b1
      · rw [hD, st_B, if_neg (by omega), if_neg (by omega)]
        exact b6
      · rw [hD, st_S, if_neg (by omega), if_neg (by omega), if_neg (by omega)]
        exact (b7 j hj).2
      · rw [hD, st_so]
        exact (b7 j hj).1
    · rintro M6 rfl
      have kn : k < n := by omega
      refine of_ok (w := 1) rfl (by omega) (by decide) ⟨inbn LN_200 (by omega), ?_⟩
      rintro M7 rfl
      refine ⟨inbn LN_201 (by omega), ?_⟩
      rintro M8 rfl
      have pk := hp k kn
      have pe : w32 (st2 M5 197 k (k : Int) 193 (5 * 1 + k)) = pr k := by
        rw [st2_n _ _ (by omega), b1 193 _ (by omega) (by omega), show 5 * 1 + k = 5 + k by omega, ← hpr k kn, w32_id (by omega) (by omega)]
      rw [pe]
      refine ⟨⟨k + 1, rfl, kn, fun a c q1 q2 => ?_, ?_, ?_, ?_, ?_, fun j hj => ?_⟩, by omega⟩
      · rw [st2_n _ _ (by omega), st2_n _ _ (by omega), st2_n _ _ (by omega)]; exact b1 a c q1 q2
      · rw [fb_n _ _ (by omega), fb_n _ _ (by omega), fb_n _ _ (by omega)]; exact b2
      · rw [st2_n _ _ (by omega), st2_n _ _ (by omega), st2_n _ _ (by omega)]; exact b3
      · exact RowsR_same b5 hn5 (fun a c q1 q2 => by rw [st2_n _ _ (by omega), st2_n _ _ (by omega), st2_n _ _ (by omega)]) (fun a c q1 q2 => by rw [st2_n _ _ (by omega), st2_n _ _ (by omega), st2_n _ _ (by omega)])
      · exact CQ_same b6 (by rw [st2_n _ _ (by omega), st2_n _ _ (by omega), st2_n _ _ (by omega)]) (by rw [st2_n _ _ (by omega), st2_n _ _ (by omega), st2_n _ _ (by omega)])
      · by_cases y : j = k
        · subst y
          exact ⟨by rw [st2_n _ _ (by omega), st2_n _ _ (by omega), st2_s], _, rfl, by rw [st2_n _ _ (by omega), st2_s], st2_s _ _ _ _⟩
        · obtain ⟨d1, d2⟩ := b7 j (by omega)
          exact ⟨by rw [st2_n _ _ (by omega), st2_n _ _ (by omega), st2_n _ _ (by omega)]; exact d1, CQ_same d2 (by rw [st2_n _ _ (by omega), st2_n _ _ (by omega), st2_n _ _ (by omega)]) (by rw [st2_n _ _ (by omega), st2_n _ _ (by omega), st2_n _ _ (by omega)])⟩
  -- one rung
  have iN : i < N := by omega
  have i5 : i < 5 := by omega
  have iN' : i < rungs (M2 190) := by rw [r2, ← hN]; exact iN
  have rrE : rrS (M2 190) (M2 191) noY = rr := by rw [r2, r3]; exact hrr.symm
  refine carries_ok r1 (by rw [r6]; exact hn) iN' b2 (cf := cfS n v du) (fun j hj => ?_) (by rw [rrE]; exact b4) (by rw [rrE]; exact fun j hj => cvF j hj i hi) (by rw [rrE]; exact fun j hj => small_ne (cS j hj i iN)) (fun M3 s1 s2 s3 => ?_)
  · rw [r2, r3, r5]
    unfold cfS
    by_cases q : j = n
    · rw [if_pos q, if_pos q, ← hdu i iN]
      rfl
    · rw [if_neg q, if_neg q]
      exact hv j (by omega) i iN
  rw [rrE] at s1
  have e10 : (10 : Int) + (i : Int) = ((10 + i : Nat) : Int) := by omega
  have e20 : (20 : Int) + (i : Int) = ((20 + i : Nat) : Int) := by omega
  rw [e10, e20]
  have z3 : FrZ M M3 := FrZ_trans b1 (fun a c q1 q2 => s3 a c (by omega) (by omega) (by omega))
  have c3 : M3 189 3 = (n : Int) := by rw [z3 189 3 (by omega) (by omega)]; exact hn
  have c11 : M3 189 11 = (H : Int) := by rw [s3 189 11 (by omega) (by omega) (by omega)]; exact b3
  have R3 : RowsR n H key M3 D := RowsR_same b5 hn5 (fun a c q1 q2 => s3 a c (by omega) (by omega) (by omega)) (fun a c q1 q2 => s3 a c (by omega) (by omega) (by omega))
  have en : cfS n v du n = nego du := by unfold cfS; rw [if_pos rfl]
  have ej : ∀ j, j < n → cfS n v du j = v j := fun j hj => by unfold cfS; rw [if_neg (by omega)]
  have cc : ∀ j, j ≤ n → CQ M3 202 203 j ((fun j => carryC rr (cfS n v du j) i) j) ∧ FrO ((fun j => carryC rr (cfS n v du j) i) j) := fun j hj => ⟨s1 j hj, cF j hj i iN⟩
  refine comes_ok hn5 (show H < 9 by omega) (by decide) c3 c11 s2 cc (fun z => (by cases z)) (fun M4 t1 t2 t3 t4 t5 => ?_)
  have oi : onS N lm i = true := by rw [onS_lo i5]; exact decide_eq_true iN
  have K1 := KeyG_add K (q0 := i) (by omega) oi (by unfold PdS; omega)
  have z4 : FrZ M M4 := FrZ_trans z3 (FrZ_Co t1)
  have R4 : RowsR n (H + 1) (fun r => if r = H then i else key r) M4 D := by
    refine RowsR_add (RowsR_same R3 hn5 (fun a c q1 q2 => t1 a c (by omega) (by omega) (by omega) (by omega)) (fun a c q1 q2 => t1 a c (by omega) (by omega) (by omega) (by omega))) ?_ (RwR_congr t5 ?_ (fun j hj => ?_))
    · rw [t4, hD, st_num, if_pos i5]
    · rw [hD, st_B, if_pos i5, ← en]
      rfl
    · rw [hD, st_S, if_neg (by omega), if_pos i5, ← ej j hj]
      rfl
  have t3 : M4 189 11 = ((H + 1 : Nat) : Int) := by rw [t3]; omega
  have C4 : ∀ j, j ≤ n → CQ M4 202 203 j (carryC rr (cfS n v du j) i) := fun j hj => CQ_same (s1 j hj) (t1 _ _ (by omega) (by omega) (by omega) (by omega)) (t1 _ _ (by omega) (by omega) (by omega) (by omega))
  obtain ⟨u1, u2, u3, u4, u5, u6, u7⟩ := FrZ_ref hR z4
  refine isRoom_ok u1 (by rw [u2, ← hN]; exact iN) (dcf (fun z => ?_) (fun z => ?_))
  · rw [u2, ← hN, u4, ← hlm i iN] at z
    have i4 : i < 4 := by omega
    obtain ⟨hr1, hd1, hl1, hv1⟩ := hd i iN
    obtain ⟨d1, d2, -⟩ := dayS_ok (d := M 190) (i := i) (by rw [← hN]; exact iN)
    have hl := hlm i iN
    have e6 : rt 189 6 = 194 ∧ rt 189 2 = 192 := by decide +kernel
    rw [e6.1, e6.2, ixn (show i < 2147483648 by omega), u1.2.2.2.1 i (by rw [u2, ← hN]; exact iN), u2, u4, ixn (show dayS (M 190) i < 2147483648 by omega), w32_id (z := M 192 (dayS (M 190) i)) (by omega) (by omega), ← hl]
    refine ⟨inbn LN_194 i5, inbn LN_192 (by omega), ?_⟩
    have cc4 : ∀ j, j ≤ n → CQ M4 202 203 j ((fun j => carryC rr (cfS n v du j) i) j) ∧ FrO ((fun j => carryC rr (cfS n v du j) i) j) := fun j hj => ⟨C4 j hj, cF j hj i iN⟩
    refine comes_ok hn5 (show H + 1 < 9 by omega) ⟨by omega, by omega⟩ (by rw [u6]; exact hn) t3 t2 cc4 (fun _ => small_ne (add_small (V := 100) (neg_small (cS n (Nat.le_refl _) i iN)) (by omega) (by decide) (by decide))) (fun M5 w1 w2 w3 w4 w5 => ?_)
    unfold wp_X12_begins_b196
    have o5 : onS N lm (5 + i) = true := by rw [onS_hi i4]; exact decide_eq_true ⟨z.1, z.2⟩
    have K2 := KeyG_add K1 (q0 := 5 + i) (by omega) o5 (by unfold PdS; omega)
    refine ⟨⟨i + 1, H + 2, _, rfl, iN, by omega, FrZ_trans z4 (FrZ_Co w1), w2, by rw [w3]; omega, fun j hj => CQ_same (C4 j hj) (w1 _ _ (by omega) (by omega) (by omega) (by omega)) (w1 _ _ (by omega) (by omega) (by omega) (by omega)), KeyG_congr K2 (fun q hq _ => ?_), ?_⟩, by omega⟩
    · unfold PdS
      omega
    · refine RowsR_add (RowsR_same R4 hn5 (fun a c q1 q2 => w1 a c (by omega) (by omega) (by omega) (by omega)) (fun a c q1 q2 => w1 a c (by omega) (by omega) (by omega) (by omega))) ?_ (RwR_congr w5 ?_ (fun j hj => ?_))
      · rw [w4, hD, st_num, if_neg (by omega), if_pos (by omega), show 5 + i - 5 = i by omega]
      · rw [hD, st_B, if_neg (by omega), if_pos (by omega), show 5 + i - 5 = i by omega, ← en]
        unfold cmS
        rw [if_pos rfl, if_pos rfl]
      · rw [hD, st_S, if_neg (by omega), if_neg (by omega), if_pos (by omega), show 5 + i - 5 = i by omega, ← ej j hj]
        unfold cmS
        rw [if_pos rfl, if_neg (by omega)]
  · rw [u2, ← hN, u4, ← hlm i iN] at z
    unfold wp_X12_begins_b196
    refine ⟨⟨i + 1, H + 1, _, rfl, iN, by omega, z4, t2, t3, C4, ?_, R4⟩, by omega⟩
    rcases Nat.lt_or_ge i 4 with y | y
    · have o5 : onS N lm (5 + i) = false := by rw [onS_hi y]; exact decide_eq_false z
      refine KeyG_congr (KeyG_skip K1 o5) (fun q hq _ => ?_)
      unfold PdS
      omega
    · refine KeyG_congr K1 (fun q hq _ => ?_)
      unfold PdS
      omega
