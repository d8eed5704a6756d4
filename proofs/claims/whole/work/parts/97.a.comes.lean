/-! the reference begins: a row comes -/
def FrCo (H : Nat) (M M' : Mem) : Prop := ∀ k c, ¬ (k = 189 ∧ 8 ≤ c ∧ c ≤ 11) → ¬ (k = 196 ∧ c = H) → ¬ ((k = 198 ∨ k = 199) ∧ c = H) → ¬ ((k = 200 ∨ k = 201) ∧ 5 * H ≤ c ∧ c < 5 * H + 5) → M' k c = M k c
theorem FrZ_Co {H : Nat} {M M' : Mem} (h : FrCo H M M') : FrZ M M' := fun k c q1 q2 => h k c (by omega) (by omega) (by omega) (by omega)
/-- what a row's column comes to, of the carries -/
def cmS (neg : Bool) (lm : Int) (n : Nat) (c : Nat → Q2) (k : Nat) : Q2 := if neg then (if k = n then ob addq ((c k).map negq) (some (lm, 1)) else (c k).map negq) else c k
theorem RF_set {M : Mem} {x : Int × Int} {u v : Int} (hf : fb M 189 8 = false) (hu : u = x.1) (hv : v = x.2) : RF (st2 (st2 M 189 9 u) 189 10 v) (some x) ∧ FrF M (st2 (st2 M 189 9 u) 189 10 v) :=
  ⟨⟨by rw [fb_n _ _ (by omega), fb_n _ _ (by omega)]; exact hf, by rw [st2_n _ _ (by omega), st2_s]; exact hu, by rw [st2_s]; exact hv⟩, fun k c q => by rw [st2_n _ _ (by omega), st2_n _ _ (by omega)]⟩
theorem comes_store {n H k : Nat} (hn : n ≤ 5) (hH : H < 9) (hk : k ≤ n) {M : Mem} (h3 : M 189 3 = (n : Int)) (h11 : M 189 11 = (H : Int)) {y : Int × Int} (hy : RF M (some y)) {Q : Mem → Prop} {K : Mem → Int → Prop} {neg : Bool} {lm : Int} (h1 : k < n → ∀ M' : Mem, CQ M' 200 201 (5 * H + k) (some y) → (∀ a c, ¬ ((a = 200 ∨ a = 201) ∧ c = 5 * H + k) → M' a c = M a c) → K M' ((k : Int) + 1)) (h2 : k = n → ∀ M' : Mem, CQ M' 198 199 H (some y) → (∀ a c, ¬ ((a = 198 ∨ a = 199) ∧ c = H) → M' a c = M a c) → K M' ((k : Int) + 1)) : wp_X12_comes_b91 189 Q K M neg lm (k : Int) := by
  have e5 : (5 * (H : Int)) + (k : Int) = ((5 * H + k : Nat) : Int) := by omega
  unfold wp_X12_comes_b91 wp_X12_comes_b165
  rw [h3, h11, e5, w32n (show k < 2147483648 by omega), w32n (show n < 2147483648 by omega), rt_189.2.2.1, rt_189.2.2.2.1, rt_189.2.2.2.2.1, rt_189.2.2.2.2.2.1, ixn (show 5 * H + k < 2147483648 by omega), ixn (show H < 2147483648 by omega), hy.2.1]
  refine ⟨fun u => ⟨inbn LN_200 (by omega), ?_⟩, fun u => ⟨inbn LN_198 (by omega), ?_⟩⟩
  · rintro M2 rfl
    rw [st2_n M _ (show ¬ (189 = 200 ∧ 11 = 5 * H + k) by omega), st2_n M _ (show ¬ (189 = 200 ∧ 10 = 5 * H + k) by omega), h11, hy.2.2, e5, ixn (show 5 * H + k < 2147483648 by omega)]
    refine ⟨inbn LN_201 (by omega), ?_⟩
    rintro M3 rfl
    refine h1 (by omega) _ ⟨y, rfl, ?_, st2_s _ _ _ _⟩ (fun a c q => ?_)
    · rw [st2_n _ _ (by omega), st2_s]
    · rw [st2_n _ _ (by omega), st2_n _ _ (by omega)]
  · rintro M2 rfl
    rw [st2_n M _ (show ¬ (189 = 198 ∧ 11 = H) by omega), st2_n M _ (show ¬ (189 = 198 ∧ 10 = H) by omega), h11, hy.2.2, ixn (show H < 2147483648 by omega)]
    refine ⟨inbn LN_199 (by omega), ?_⟩
    rintro M3 rfl
    refine h2 (by omega) _ ⟨y, rfl, ?_, st2_s _ _ _ _⟩ (fun a c q => ?_)
    · rw [st2_n _ _ (by omega), st2_s]
    · rw [st2_n _ _ (by omega), st2_n _ _ (by omega)]
theorem comes_ok {n H : Nat} (hn : n ≤ 5) (hH : H < 9) {z lm : Int} {neg : Bool} (hlm : -1000000 < lm ∧ lm < 1000000) {M : Mem} (h3 : M 189 3 = (n : Int)) (h11 : M 189 11 = (H : Int)) (hf : fb M 189 8 = false) {c : Nat → Q2} (hc : ∀ j, j ≤ n → CQ M 202 203 j (c j) ∧ FrO (c j)) (hb : neg = true → ob addq ((c n).map negq) (some (lm, 1)) ≠ none) {Q : Mem → Prop} (h : ∀ M' : Mem, FrCo H M M' → fb M' 189 8 = false → M' 189 11 = (H : Int) + 1 → M' 196 H = z → RwR n M' H (cmS neg lm n c n) (cmS neg lm n c) → Q M') : wp_X12_comes 189 z neg lm M Q := by
  unfold wp_X12_comes
  rw [h11, rt_189.1, ixn (show H < 2147483648 by omega)]
  refine ⟨inbn LN_196 hH, ?_⟩
  rintro M9 rfl
  refine ⟨fun M' x5 => ∃ k : Nat, x5 = (k : Int) ∧ k ≤ n + 1 ∧ FrFi H (st2 M 196 H z) M' ∧ fb M' 189 8 = false ∧ (∀ j, j < k → j < n → CQ M' 200 201 (5 * H + j) (cmS neg lm n c j)) ∧ (n < k → CQ M' 198 199 H (cmS neg lm n c n)), fun _ x5 => ((n : Int) + 1 - x5).toNat, ⟨0, rfl, Nat.zero_le _, fun _ _ _ _ _ => rfl, ?_, fun _ q => absurd q (Nat.not_lt_zero _), fun q => absurd q (Nat.not_lt_zero _)⟩, ?_⟩
  · rw [fb_n _ _ (by omega)]; exact hf
  rintro M1 x5 ⟨k, rfl, hk, f1, f2, f3, f4⟩
  have g3 : M1 189 3 = (n : Int) := by rw [f1 189 3 (by omega) (by omega) (by omega), st2_n _ _ (by omega)]; exact h3
  have g11 : M1 189 11 = (H : Int) := by rw [f1 189 11 (by omega) (by omega) (by omega), st2_n _ _ (by omega)]; exact h11
  have μk : k ≤ n → ((n : Int) + 1 - ((k : Int) + 1)).toNat < ((n : Int) + 1 - (k : Int)).toNat := fun z => by clear f3 f4; omega
  unfold wp_X12_comes_B13
  dsimp only
  rw [g3, w32n (show n < 2147483648 by omega), w32n (show k < 2147483648 by omega), rt_189.2.2.2.2.2.2.1, rt_189.2.2.2.2.2.2.2, ixn (show k < 2147483648 by omega), g11]
  refine ⟨fun u => ?_, fun u => ?_⟩
  · rintro M2 rfl
    have : k = n + 1 := by omega
    subst this
    refine h _ (fun a c q1 q2 q3 q4 => ?_) ?_ (st2_s _ _ _ _) ?_ ⟨CQ_same (f4 (by omega)) (st2_n _ _ (by omega)) (st2_n _ _ (by omega)), fun j hj => CQ_same (f3 j (by omega) hj) (st2_n _ _ (by omega)) (st2_n _ _ (by omega))⟩
    · rw [st2_n _ _ (by omega), f1 a c (by omega) q3 q4, st2_n _ _ (by omega)]
    · rw [fb_n _ _ (by omega)]; exact f2
    · rw [st2_n _ _ (by omega), f1 196 H (by omega) (by omega) (by omega), st2_s]
  have kn : k ≤ n := by omega
  obtain ⟨⟨x, xe, x1, x2⟩, cF⟩ := hc k kn
  have xF := cF x xe
  have a1 : M1 202 k = x.1 := by rw [f1 202 k (by omega) (by omega) (by omega), st2_n _ _ (by omega)]; exact x1
  have a2 : M1 203 k = x.2 := by rw [f1 203 k (by omega) (by omega) (by omega), st2_n _ _ (by omega)]; exact x2
  refine ⟨inbn LN_202 (by omega), ?_⟩
  rintro M2 rfl
  refine ⟨inbn LN_203 (by omega), ?_⟩
  rintro M3 rfl
  obtain ⟨p1, p2⟩ := RF_set f2 a1 (show st2 M1 189 9 (M1 202 k) 203 k = x.2 by rw [st2_n _ _ (by omega)]; exact a2)
  generalize st2 (st2 M1 189 9 (M1 202 k)) 189 10 (st2 M1 189 9 (M1 202 k) 203 k) = M3 at p1 p2 ⊢
  -- what is stored
  have store : ∀ (M4 : Mem) (y : Int × Int), FrF M1 M4 → RF M4 (some y) → cmS neg lm n c k = some y → wp_X12_comes_b91 189 Q (fun M' x5' => (∃ k : Nat, x5' = (k : Int) ∧ k ≤ n + 1 ∧ FrFi H (st2 M 196 H z) M' ∧ fb M' 189 8 = false ∧ (∀ j, j < k → j < n → CQ M' 200 201 (5 * H + j) (cmS neg lm n c j)) ∧ (n < k → CQ M' 198 199 H (cmS neg lm n c n))) ∧ ((n : Int) + 1 - x5').toNat < ((n : Int) + 1 - (k : Int)).toNat) M4 neg lm (k : Int) := by
    intro M4 y r1 r2 r3
    refine comes_store hn hH kn (by rw [r1 189 3 (by omega)]; exact g3) (by rw [r1 189 11 (by omega)]; exact g11) r2 (fun hkn M5 s1 s2 => ?_) (fun hkn M5 s1 s2 => ?_)
    · refine ⟨⟨k + 1, rfl, by clear f3 f4; omega, fun a c q1 q2 q3 => ?_, ?_, fun j j1 j2 => ?_, fun q => absurd q (by clear f3 f4; omega)⟩, μk kn⟩
      · rw [s2 a c (by clear f3 f4; omega), r1 a c (by clear f3 f4; omega), f1 a c q1 q2 q3]
      · rw [fb_eq (s2 189 8 (by clear f3 f4; omega))]; exact r2.1
      · by_cases e : j = k
        · subst e
          rw [r3]
          exact s1
        · have d := f3 j (by clear f3 f4; omega) j2
          exact CQ_same d (by rw [s2 _ _ (by clear f3 f4; omega), r1 _ _ (by clear f3 f4; omega)]) (by rw [s2 _ _ (by clear f3 f4; omega), r1 _ _ (by clear f3 f4; omega)])
    · refine ⟨⟨k + 1, rfl, by clear f3 f4; omega, fun a c q1 q2 q3 => ?_, ?_, fun j j1 j2 => ?_, fun _ => ?_⟩, μk kn⟩
      · rw [s2 a c q2, r1 a c (by clear f3 f4; omega), f1 a c q1 q2 q3]
      · rw [fb_eq (s2 189 8 (by clear f3 f4; omega))]; exact r2.1
      · have d := f3 j (by clear f3 f4; omega) j2
        exact CQ_same d (by rw [s2 _ _ (by clear f3 f4; omega), r1 _ _ (by clear f3 f4; omega)]) (by rw [s2 _ _ (by clear f3 f4; omega), r1 _ _ (by clear f3 f4; omega)])
      · rw [hkn] at r3
        rw [r3]
        exact s1
  cases neg with
  | false =>
    refine ⟨fun _ => ?_, fun q => (by cases q)⟩
    unfold wp_X12_comes_b64
    exact ⟨fun _ => store M3 x p2 p1 xe, fun q => (by cases q)⟩
  | true =>
    refine ⟨fun q => (by cases q), fun _ => ?_⟩
    rw [p1.2.1, p1.2.2]
    refine rproduct_ok (x := x) (y := (-1, 1)) ⟨(Fr_in xF).1, (Fr_in xF).2.1⟩ ⟨⟨by decide, by decide⟩, ⟨by decide, by decide⟩⟩ (by dsimp only; have := xF.1; omega) p1.1 (fun M4 q1 q2 => ?_)
    rw [mulq_neg xF] at q1
    have fr4 := FrF_trans p2 q2
    unfold wp_X12_comes_b64
    refine ⟨fun q => (by cases q), fun _ => ?_⟩
    rw [fr4 189 3 (by omega), g3, w32n (show k < 2147483648 by omega), w32n (show n < 2147483648 by omega)]
    have en : (c k).map negq = some (negq x) := by rw [xe]; rfl
    refine ⟨fun u2 => store M4 _ fr4 q1 ?_, fun u2 => ?_⟩
    · unfold cmS
      rw [if_pos rfl, if_neg (by omega)]
      exact en
    · have hkn : k = n := by omega
      have e1 : cmS true lm n c k = addq (lm, 1) (negq x) := by
        unfold cmS
        rw [if_pos rfl, if_pos hkn, en]
        exact addq_comm _ _
      have hb := hb rfl
      rw [← hkn, en] at hb
      have hb : addq (negq x) (lm, 1) ≠ none := hb
      rw [q1.2.1, q1.2.2]
      refine rsum_ok (x := (lm, 1)) (y := negq x) (Fr_int ⟨by omega, by omega⟩) (negq_Fr xF) q1.1 (fun M5 t1 t2 => ?_)
      rw [addq_comm] at e1
      rw [addq_comm] at t1
      cases q : addq (negq x) (lm, 1) with
      | none => exact absurd q hb
      | some y =>
        rw [q] at t1 e1
        exact store M5 y (FrF_trans fr4 t2) t1 e1
