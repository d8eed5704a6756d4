/-! what was told of a replay -/
def firstF (g : Nat → Bool) : Nat → Int
  | 0 => -1
  | k + 1 => if firstF g k ≠ -1 then firstF g k else if g k then (k : Int) else -1
theorem firstF_none {g : Nat → Bool} : ∀ {k : Nat}, (∀ i, i < k → g i = false) → firstF g k = -1
  | 0, _ => rfl
  | k + 1, h => by
    unfold firstF
    rw [firstF_none (k := k) (fun i hi => h i (by omega)), if_neg (by simp), h k (by omega)]
    rfl
theorem firstF_at {g : Nat → Bool} {k : Nat} (h : ∀ i, i < k → g i = false) (h2 : g k = true) : ∀ n, k < n → firstF g n = (k : Int) := by
  intro n hn
  induction n with
  | zero => omega
  | succ n ih =>
    unfold firstF
    by_cases q : k = n
    · subst q
      rw [firstF_none h, if_neg (by simp), h2]
      rfl
    · rw [ih (by omega), if_pos (by omega)]
theorem firstF_range (g : Nat → Bool) : ∀ k, -1 ≤ firstF g k ∧ firstF g k < (k : Int)
  | 0 => by unfold firstF; omega
  | k + 1 => by
    have ih := firstF_range g k
    unfold firstF
    split
    · omega
    · split <;> omega
theorem firstF_congr {g h : Nat → Bool} : ∀ {k : Nat}, (∀ i, i < k → g i = h i) → firstF g k = firstF h k
  | 0, _ => rfl
  | k + 1, q => by
    unfold firstF
    rw [firstF_congr (k := k) (fun i hi => q i (by omega)), q k (by omega)]
def notO (N : Nat) (it ca : Nat → Int) (i : Nat) : Bool := !decide (i < N ∧ w64 (w32 (it i)) = w64 (ca i))
theorem firstOtherwise_ok {j z N : Nat} (hj : j < 4) {M : Mem} {Q : Int → Prop} (e2 : M (181 + 2 * j) 2 = (z : Int)) (hz : z ≤ 5) (e6 : M 177 6 = (N : Int)) (hN : N ≤ 5) (h : Q (firstF (notO N (M (182 + 2 * j)) (M 178)) z)) : wp_X6_firstOtherwise 177 (181 + 2 * j) M Q := by
  refine ⟨fun x2 => ∃ k : Nat, x2 = (k : Int) ∧ k ≤ z ∧ ∀ i, i < k → notO N (M (182 + 2 * j)) (M 178) i = false, fun x2 => ((z : Int) - x2).toNat, ⟨0, rfl, Nat.zero_le _, fun i hi => by omega⟩, ?_⟩
  rintro x2 ⟨k, rfl, hk, f1⟩
  unfold wp_X6_firstOtherwise_B2
  dsimp only
  rw [e2, e6, w32n (show z < 2147483648 by omega), w32n (show N < 2147483648 by omega), w32n (show k < 2147483648 by omega), ixn (show k < 2147483648 by omega), rt_sheet j hj, rtv_177_c]
  refine ⟨fun u => ?_, fun u => ⟨fun u2 => ?_, fun u2 => ⟨inbn (LN_sheet hj) (by omega), inbn LN_178 (by omega), fun u3 => ?_, fun u3 => ?_⟩⟩⟩
  · have : k = z := by omega
    subst this
    rw [firstF_none f1] at h
    exact h
  · rw [firstF_at f1 (by unfold notO; rw [decide_eq_false (by omega)]; rfl) z (by omega)] at h
    exact h
  · refine ⟨⟨k + 1, by omega, by omega, fun i hi => ?_⟩, by omega⟩
    by_cases q : i = k
    · subst q
      unfold notO
      rw [decide_eq_true ⟨by omega, u3⟩]
      rfl
    · exact f1 i (by omega)
  · rw [firstF_at f1 (by unfold notO; rw [decide_eq_false (fun y => u3 y.2)]; rfl) z (by omega)] at h
    exact h
theorem unlike_ok {M : Mem} {y : F1} (hR : RefOK M y) {j z : Nat} (hj : j < 4) (e2 : M 210 j = (z : Int)) (hz : z ≤ 5) {Q : Int → Mem → Prop} (h : ∀ M' : Mem, RPlayed M' (M 190) (M 191) (M 192) (M 193) y (heldF (M 193)) (M 189 3) → FrP M M' → Q (firstF (notO (rungs (M 190)) (fun i => M 211 (40 * j + i)) (M' 206)) z) M') : wp_X12_unlike 189 (j : Int) M Q := by
  unfold wp_X12_unlike
  refine plays_ok' hR (fun M1 p1 p2 => ?_)
  have h := h M1 p1 p2
  have hN := hR.2.1
  have h05 := hR.2.2.1
  obtain ⟨d1, d2, d3, d4, d5, d6, d7, d8, d9⟩ := FrP_data p2
  generalize rungs (M 190) = N at *
  refine ⟨fun x2 => ∃ k : Nat, x2 = (k : Int) ∧ k ≤ z ∧ ∀ i, i < k → notO N (fun i => M 211 (40 * j + i)) (M1 206) i = false, fun x2 => ((z : Int) - x2).toNat, ⟨0, rfl, Nat.zero_le _, fun i hi => by omega⟩, ?_⟩
  rintro x2 ⟨k, rfl, hk, f1⟩
  unfold wp_X12_unlike_B7
  dsimp only
  rw [rtv_189_32, ixn (show j < 2147483648 by omega), d8, e2, w32n (show z < 2147483648 by omega), w32n (show k < 2147483648 by omega)]
  refine ⟨inbn LN_210 hj, fun u => ?_, fun u => ?_⟩
  · have : k = z := by omega
    subst this
    rw [firstF_none f1] at h
    exact h
  rw [isRung_iff (d6.trans h05) hN ⟨by omega, by omega⟩]
  refine dcf (fun u2 => ?_) (fun u2 => ?_)
  · rw [rtv_189_23, rtv_189_33, ixn (show k < 2147483648 by omega), show (40 : Int) * (j : Int) + (k : Int) = ((40 * j + k : Nat) : Int) by omega, ixn (show 40 * j + k < 2147483648 by omega), d9]
    refine ⟨inbn LN_206 (by omega), inbn LN_211 (by omega), fun u3 => ?_, fun u3 => ?_⟩
    · refine ⟨⟨k + 1, by omega, by omega, fun i hi => ?_⟩, by omega⟩
      by_cases q : i = k
      · subst q
        unfold notO
        rw [decide_eq_true ⟨by omega, u3.symm⟩]
        rfl
      · exact f1 i (by omega)
    · rw [firstF_at f1 (by unfold notO; rw [decide_eq_false (fun y => u3 y.2.symm)]; rfl) z (by omega)] at h
      exact h
  · rw [firstF_at f1 (by unfold notO; rw [decide_eq_false (fun y => u2 ⟨by omega, by omega⟩)]; rfl) z (by omega)] at h
    exact h
def cntB (g : Nat → Bool) : Nat → Int
  | 0 => 0
  | k + 1 => cntB g k + if g k then 1 else 0
theorem cntB_range (g : Nat → Bool) : ∀ k, 0 ≤ cntB g k ∧ cntB g k ≤ (k : Int)
  | 0 => by unfold cntB; omega
  | k + 1 => by
    have ih := cntB_range g k
    unfold cntB
    split <;> omega
theorem PD_congr {d r t t' y hv hv' : F1} {n : Int} (hn : n ≤ 5) (ht : ∀ j, j < 30 → t' j = t j) (hh : ∀ b : Nat, (b : Int) < n → hv' b = hv b) : PD d r t' y hv' n = PD d r t y hv n := by
  funext i
  unfold PD pdH
  refine sumN_congr fun b hb => ?_
  have hb' : (b : Int) < n := by omega
  rw [hh b hb', payAt_congr ht (by omega)]
/-- what a replay by rates as they are tells, so many held of one -/
def okT (d r l t : F1) (n : Int) (b : Nat) (it : Nat → Int) (z : Nat) (k : Nat) : Bool := decide (firstF (notO (rungs d) it (fun i => hasB d r l t noY (updI (heldF t) b (k : Int)) n (i + 1))) z = -1)
theorem notO_congr {N : Nat} {it it' ca ca' : Nat → Int} (h1 : ∀ i, i < 40 → it' i = it i) (h2 : ∀ i, i < N → ca' i = ca i) {z : Nat} (hz : z ≤ 5) : firstF (notO N it' ca') z = firstF (notO N it ca) z := by
  refine firstF_congr fun i hi => ?_
  unfold notO
  by_cases q : i < N
  · rw [h1 i (by omega), h2 i q]
  · rw [decide_eq_false (fun y => q y.1), decide_eq_false (fun y => q y.1)]
theorem least_up {g : Nat → Bool} {x : Int} (h : (x = -1 ∧ ∀ i, i < 100 → g i = false) ∨ ∃ i : Nat, x = (i : Int) ∧ i < 100 ∧ g i = true ∧ ∀ c, c < i → g c = false) : x = firstF g 100 := by
  rcases h with ⟨rfl, h⟩ | ⟨i, rfl, h1, h2, h3⟩
  · exact (firstF_none h).symm
  · exact (firstF_at h3 h2 100 h1).symm
theorem tells_ref {DK : Mem → Prop} (hD : KeptH DK) {M : Mem} (hI : Inv DK M) {j b z : Nat} (hj : j < 4) (hb : (b : Int) < M 189 3) (e2 : M 210 j = (z : Int)) (hz : z ≤ 5) {a2 : Int} (h2 : R32 a2) {P : Int → Mem → Prop} (hP : ∀ M' : Mem, FrP M M' → P (if a2 = 1 then cntB (okT (M 190) (M 191) (M 192) (M 193) (M 189 3) b (fun i => M 211 (40 * j + i)) z) 100 else firstF (okT (M 190) (M 191) (M 192) (M 193) (M 189 3) b (fun i => M 211 (40 * j + i)) z) 100) M') : wp_X12_tells_L85 189 P M (j : Int) a2 (b : Int) (M 193 (30 + b)) 0 (-1) 99 := by
  have hR := Inv_RefOK hI
  obtain ⟨n1, n2⟩ := Inv_n hI
  have hb5 : b < 5 := by omega
  obtain ⟨g, hg⟩ : ∃ g : Nat → Bool, g = okT (M 190) (M 191) (M 192) (M 193) (M 189 3) b (fun i => M 211 (40 * j + i)) z := ⟨_, rfl⟩
  rw [← hg] at hP
  -- between the rounds only the reference's scratch, and how many are held
  refine ⟨fun M' x5 x6 x7 => ∃ k : Nat, x7 = (k : Int) - 1 ∧ k ≤ 100 ∧ x5 + cntB g k = cntB g 100 ∧ ((x6 = -1 ∧ ∀ i, k ≤ i → i < 100 → g i = false) ∨ ∃ i : Nat, x6 = (i : Int) ∧ k ≤ i ∧ i < 100 ∧ g i = true ∧ ∀ c, k ≤ c → c < i → g c = false) ∧ (∀ a c, a ≠ 206 → a ≠ 207 → ¬ (a = 189 ∧ 25 ≤ c ∧ c ≤ 27) → ¬ (a = 193 ∧ c = 30 + b) → M' a c = M a c), fun _ _ _ x7 => (x7 + 1).toNat, ⟨100, rfl, Nat.le_refl _, by omega, Or.inl ⟨rfl, fun i hi => by omega⟩, fun _ _ _ _ _ _ => rfl⟩, ?_⟩
  rintro M1 x5 x6 x7 ⟨k, rfl, hk, f1, f2, f3⟩
  unfold wp_X12_tells_B85 wp_X12_tells_b120
  dsimp only
  rw [w32_id (z := (k : Int) - 1) (by omega) (by omega), rtv_189_4, show (30 : Int) + (b : Int) = ((30 + b : Nat) : Int) by omega, ixn (show 30 + b < 2147483648 by omega), wl_1, w32_R h2]
  refine ⟨fun u => ⟨inbn LN_193 (by omega), ?_⟩, fun u => ⟨inbn LN_193 (by omega), ?_⟩⟩
  · have : k = 0 := by omega
    subst this
    rintro M136 rfl
    have fr : FrP M (st2 M1 193 (30 + b) (M 193 (30 + b))) := fun a c q1 q2 q3 => by
      by_cases q : a = 193 ∧ c = 30 + b
      · obtain ⟨rfl, rfl⟩ := q
        exact st2_s _ _ _ _
      · rw [st2_n _ _ q]; exact f3 a c q1 q2 q3 q
    have hP := hP _ fr
    have e5 : x5 = cntB g 100 := by
      rw [← f1]
      exact (Int.add_zero _).symm
    have e6 : x6 = firstF g 100 := by
      refine least_up ?_
      rcases f2 with ⟨q1, q2⟩ | ⟨i, q1, q2, q3, q4, q5⟩
      · exact Or.inl ⟨q1, fun i hi => q2 i (Nat.zero_le _) hi⟩
      · exact Or.inr ⟨i, q1, q3, q4, fun c hc => q5 c (Nat.zero_le _) hc⟩
    rw [e5, e6]
    refine ⟨fun u2 => ?_, fun u2 => ?_⟩
    · rw [if_neg u2] at hP; exact hP
    · rw [if_pos (by omega)] at hP; exact hP
  obtain ⟨m, rfl⟩ : ∃ m, k = m + 1 := ⟨k - 1, by omega⟩
  rw [show ((m + 1 : Nat) : Int) - 1 = (m : Int) by omega]
  rintro M100 rfl
  have row : ∀ a, a ≠ 206 → a ≠ 207 → a ≠ 189 → a ≠ 193 → st2 M1 193 (30 + b) (m : Int) a = M a := fun a q1 q2 q3 q4 => funext fun c => by rw [st2_off _ _ q4]; exact f3 a c q1 q2 (by omega) (by omega)
  have t1 : ∀ c, c ≠ 30 + b → st2 M1 193 (30 + b) (m : Int) 193 c = M 193 c := fun c hc => by rw [st2_n _ _ (by omega)]; exact f3 193 c (by omega) (by omega) (by omega) (by omega)
  have n3 : st2 M1 193 (30 + b) (m : Int) 189 3 = M 189 3 := by rw [st2_off _ _ (by decide)]; exact f3 189 3 (by omega) (by omega) (by omega) (by omega)
  have n5 : st2 M1 193 (30 + b) (m : Int) 189 5 = M 189 5 := by rw [st2_off _ _ (by decide)]; exact f3 189 5 (by omega) (by omega) (by omega) (by omega)
  have t2 : ∀ c : Nat, (c : Int) < M 189 3 → st2 M1 193 (30 + b) (m : Int) 193 (30 + c) = updI (heldF (M 193)) b (m : Int) c := fun c hc => by
    unfold updI heldF
    by_cases q : c = b
    · subst q; rw [st2_s, if_pos rfl]
    · rw [if_neg q]; exact t1 _ (by omega)
  have hR2 : RefOK (st2 M1 193 (30 + b) (m : Int)) noY := by
    unfold RefOK at *
    rw [row 190 (by decide) (by decide) (by decide) (by decide), row 191 (by decide) (by decide) (by decide) (by decide), row 192 (by decide) (by decide) (by decide) (by decide), row 194 (by decide) (by decide) (by decide) (by decide), row 195 (by decide) (by decide) (by decide) (by decide), n3, n5]
    obtain ⟨r1, r2, r3, r4, r5, r6, r7, r8⟩ := hR
    refine ⟨r1, r2, r3, r4, r5, r6, r7, fun c hc => ?_⟩
    obtain ⟨w2, w3, w4, w5, w6, w7, w8⟩ := r8 c hc
    rw [t1 c (by omega), t1 (5 + c) (by omega), t1 (10 + c) (by omega), t1 (15 + c) (by omega), t1 (20 + c) (by omega), t1 (25 + c) (by omega)]
    refine ⟨w2, w3, w4, w5, w6, w7, ?_⟩
    by_cases q : c = b
    · subst q; rw [st2_s]; omega
    · rw [t1 _ (by omega)]; exact w8
  refine unlike_ok hR2 hj (by rw [row 210 (by decide) (by decide) (by decide) (by decide)]; exact e2) hz (fun M2 p1 p2 => ?_)
  rw [row 190 (by decide) (by decide) (by decide) (by decide), row 191 (by decide) (by decide) (by decide) (by decide), row 192 (by decide) (by decide) (by decide) (by decide), n3] at p1
  have hN5 := hR.2.1
  have ev : firstF (notO (rungs (st2 M1 193 (30 + b) (m : Int) 190)) (fun i => st2 M1 193 (30 + b) (m : Int) 211 (40 * j + i)) (M2 206)) z = firstF (notO (rungs (M 190)) (fun i => M 211 (40 * j + i)) (fun i => hasB (M 190) (M 191) (M 192) (M 193) noY (updI (heldF (M 193)) b (m : Int)) (M 189 3) (i + 1))) z := by
    rw [row 190 (by decide) (by decide) (by decide) (by decide), row 211 (by decide) (by decide) (by decide) (by decide)]
    refine notO_congr (fun _ _ => rfl) (fun i hi => ?_) hz
    rw [(p1.1 i hi).1]
    unfold hasB
    rw [PD_congr (t := M 193) (hv' := heldF (st2 M1 193 (30 + b) (m : Int) 193)) (hv := updI (heldF (M 193)) b (m : Int)) n2.2 (fun c hc => t1 c (by omega)) (fun c hc => t2 c hc)]
  rw [ev]
  have eg : g m = decide (firstF (notO (rungs (M 190)) (fun i => M 211 (40 * j + i)) (fun i => hasB (M 190) (M 191) (M 192) (M 193) noY (updI (heldF (M 193)) b (m : Int)) (M 189 3) (i + 1))) z = -1) := by rw [hg]; rfl
  have fr := firstF_range (notO (rungs (M 190)) (fun i => M 211 (40 * j + i)) (fun i => hasB (M 190) (M 191) (M 192) (M 193) noY (updI (heldF (M 193)) b (m : Int)) (M 189 3) (i + 1))) z
  generalize firstF (notO (rungs (M 190)) (fun i => M 211 (40 * j + i)) (fun i => hasB (M 190) (M 191) (M 192) (M 193) noY (updI (heldF (M 193)) b (m : Int)) (M 189 3) (i + 1))) z = r at *
  have f3' : ∀ a c, a ≠ 206 → a ≠ 207 → ¬ (a = 189 ∧ 25 ≤ c ∧ c ≤ 27) → ¬ (a = 193 ∧ c = 30 + b) → M2 a c = M a c := fun a c q1 q2 q3 q4 => by
    rw [p2 a c q1 q2 q3, st2_n _ _ q4]; exact f3 a c q1 q2 q3 q4
  have es : cntB g (m + 1) = cntB g m + if g m then 1 else 0 := rfl
  rw [wm_1, w32_id (z := r) (by omega) (by omega)]
  refine ⟨fun u2 => ⟨⟨m, by omega, by omega, ?_, ?_, f3'⟩, by omega⟩, fun u2 => ⟨⟨m, by omega, by omega, ?_, ?_, f3'⟩, by omega⟩⟩
  · have : g m = true := by rw [eg]; exact decide_eq_true u2
    rw [this, if_pos rfl] at es
    omega
  · have : g m = true := by rw [eg]; exact decide_eq_true u2
    exact Or.inr ⟨m, rfl, Nat.le_refl _, by omega, this, fun c hc hc2 => by omega⟩
  · have : g m = false := by rw [eg]; exact decide_eq_false u2
    rw [this] at es
    simp at es
    omega
  · have gm : g m = false := by rw [eg]; exact decide_eq_false u2
    rcases f2 with ⟨q1, q2⟩ | ⟨i, q1, q2, q3, q4, q5⟩
    · refine Or.inl ⟨q1, fun i hi hi2 => ?_⟩
      by_cases q : i = m
      · rw [q]; exact gm
      · exact q2 i (by omega) hi2
    · refine Or.inr ⟨i, q1, by omega, q3, q4, fun c hc hc2 => ?_⟩
      by_cases q : c = m
      · rw [q]; exact gm
      · exact q5 c (by omega) hc2
