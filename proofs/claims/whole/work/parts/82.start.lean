/-! at first nothing is GREAT, and all is in order -/
theorem absmul {a c A C : Int} (h1 : -A ≤ a) (h2 : a ≤ A) (h3 : 0 ≤ c) (h4 : c ≤ C) : -(A * C) ≤ a * c ∧ a * c ≤ A * C := by
  have a1 := Int.mul_le_mul_of_nonneg_right h2 h3
  have a2 := Int.mul_le_mul_of_nonneg_left h4 (show 0 ≤ A by omega)
  have a3 := Int.mul_le_mul_of_nonneg_right h1 h3
  rw [Int.neg_mul] at a3
  omega
def smallF (A B : Int) (q : Q2) : Prop := ∃ x, q = some x ∧ 0 < x.2 ∧ x.2 ≤ B ∧ -A ≤ x.1 ∧ x.1 ≤ A
theorem redq_small {n d A B : Int} (hA : -A ≤ n ∧ n ≤ A) (hd : 0 < d ∧ d ≤ B) (a : A < 9223372036854775807) (b : B < 9223372036854775807) : smallF A B (redq n d) := by
  have e := redq_some (n := n) (d := d) (decide_eq_true (by omega)) (decide_eq_true (by omega))
  have hF := redq_Fr (n := n) hd.1 _ e
  have g := gcI_pos (n := n) hd.1
  have b1 := tdiv_bound (n := n) g (b := A + 1) (by omega)
  have b2 := tdiv_bound (n := d) g (b := B + 1) (by omega)
  exact ⟨_, e, hF.1, by dsimp only; omega, by dsimp only; omega, by dsimp only; omega⟩
theorem fmul_small {p : Q2} {A B : Int} (h : smallF A B p) {c d : Int} (hc : 0 ≤ c ∧ c ≤ 13) (hd : 0 < d ∧ d ≤ 4) (a : A * 13 < 9223372036854775807) (b : B * 4 < 9223372036854775807) : smallF (A * 13) (B * 4) (ob mulq p (some (c, d))) := by
  obtain ⟨x, rfl, x1, x2, x3, x4⟩ := h
  have m := absmul x3 x4 hc.1 hc.2
  have m2 := absmul (a := x.2) (A := B) (by omega) x2 (show 0 ≤ d by omega) hd.2
  have m3 := Int.mul_pos x1 hd.1
  show smallF _ _ (mulq x (c, d))
  unfold mulq
  dsimp only
  rw [if_pos (by rw [show fitsL (x.1 * c) = true from decide_eq_true (by omega), show fitsL (x.2 * d) = true from decide_eq_true (by omega)]; rfl)]
  exact redq_small ⟨by omega, by omega⟩ ⟨m3, by omega⟩ a b
theorem add_small {p : Q2} {A B V f : Int} (h : smallF A B p) (hf : -V ≤ f ∧ f ≤ V) (a : A + V * B < 9223372036854775807) (b : B < 9223372036854775807) : smallF (A + V * B) B (ob addq p (some (f, 1))) := by
  obtain ⟨x, rfl, x1, x2, x3, x4⟩ := h
  have m := absmul hf.1 hf.2 (show 0 ≤ x.2 by omega) x2
  show smallF _ _ (addq x (f, 1))
  unfold addq
  dsimp only
  rw [Int.mul_one, Int.mul_one, if_pos (by rw [show fitsL x.1 = true from decide_eq_true (by omega), show fitsL (f * x.2) = true from decide_eq_true (by omega), show fitsL x.2 = true from decide_eq_true (by omega)]; rfl)]
  exact redq_small ⟨by omega, by omega⟩ ⟨x1, x2⟩ a b
theorem small_le {p : Q2} {A B A' B' : Int} (h : smallF A B p) (a : A ≤ A') (b : B ≤ B') : smallF A' B' p := by
  obtain ⟨x, e, x1, x2, x3, x4⟩ := h
  exact ⟨x, e, x1, by omega, by omega, by omega⟩
theorem fac_small {r : Int} (h : 0 ≤ r ∧ r ≤ 9) : ∃ c d : Int, fac r = some (c, d) ∧ (0 ≤ c ∧ c ≤ 13) ∧ 0 < d ∧ d ≤ 4 := by
  obtain ⟨x, e, x1, x2, x3, x4⟩ := redq_small (n := 4 + r) (d := 4) (A := 13) (B := 4) (by omega) (by decide) (by decide) (by decide)
  obtain ⟨-, y, e2, -, y0⟩ := fac_ok h
  have e : fac r = some x := e
  have xy : x = y := by
    rw [e] at e2
    exact Option.some.inj e2
  exact ⟨x.1, x.2, e, ⟨by rw [xy]; omega, x4⟩, x1, x2⟩
theorem carry_small {N : Nat} {rr : F1} {f : Nat → Int} (hN : N ≤ 5) (hr : ∀ i, i < N → 0 ≤ rr i ∧ rr i ≤ 9) (hf : ∀ i, i < N → -20000 ≤ f i ∧ f i ≤ 20000) {i : Nat} (h : i < N) : smallF 10000000000 256 (carryC rr f i) := by
  have s0 : 0 < N → smallF 20000 1 (carryC rr f 0) := fun h => by
    have := add_small (p := some (0, 1)) (A := 0) (B := 1) (V := 20000) ⟨_, rfl, by decide, by decide, by decide, by decide⟩ (hf 0 h) (by decide) (by decide)
    exact small_le this (by decide) (by decide)
  have st : ∀ (j : Nat) (A B A' B' : Int), j + 1 < N → smallF A B (carryC rr f j) → A * 13 + 20000 * (B * 4) ≤ A' → B * 4 ≤ B' → A' < 9223372036854775807 → B' < 9223372036854775807 → 0 ≤ A → 0 ≤ B → smallF A' B' (carryC rr f (j + 1)) := by
    intro j A B A' B' hj hs h1 h2 h3 h4 h5 h6
    obtain ⟨c, d, e, hc, hd⟩ := fac_small (hr (j + 1) hj)
    show smallF A' B' (ob addq (ob mulq (carryC rr f j) (fac (rr (j + 1)))) (some (f (j + 1), 1)))
    rw [e]
    have m := fmul_small hs hc hd (by omega) (by omega)
    exact small_le (add_small m (hf (j + 1) hj) (by omega) (by omega)) h1 h2
  have s1 : 1 < N → smallF 340000 4 (carryC rr f 1) := fun h => st 0 _ _ _ _ h (s0 (by omega)) (by decide) (by decide) (by decide) (by decide) (by decide) (by decide)
  have s2 : 2 < N → smallF 4740000 16 (carryC rr f 2) := fun h => st 1 _ _ _ _ h (s1 (by omega)) (by decide) (by decide) (by decide) (by decide) (by decide) (by decide)
  have s3 : 3 < N → smallF 62900000 64 (carryC rr f 3) := fun h => st 2 _ _ _ _ h (s2 (by omega)) (by decide) (by decide) (by decide) (by decide) (by decide) (by decide)
  have s4 : 4 < N → smallF 822820000 256 (carryC rr f 4) := fun h => st 3 _ _ _ _ h (s3 (by omega)) (by decide) (by decide) (by decide) (by decide) (by decide) (by decide)
  rcases (show i = 0 ∨ i = 1 ∨ i = 2 ∨ i = 3 ∨ i = 4 by omega) with rfl | rfl | rfl | rfl | rfl
  · exact small_le (s0 h) (by decide) (by decide)
  · exact small_le (s1 h) (by decide) (by decide)
  · exact small_le (s2 h) (by decide) (by decide)
  · exact small_le (s3 h) (by decide) (by decide)
  · exact small_le (s4 h) (by decide) (by decide)
theorem neg_small {p : Q2} {A B : Int} (h : smallF A B p) : smallF A B (p.map negq) := by
  obtain ⟨x, rfl, x1, x2, x3, x4⟩ := h
  exact ⟨negq x, rfl, x1, x2, by unfold negq; dsimp only; omega, by unfold negq; dsimp only; omega⟩
theorem small_ne {p : Q2} {A B : Int} (h : smallF A B p) : p ≠ none := by
  obtain ⟨x, rfl, -⟩ := h
  exact fun z => by cases z
def valO : Q2 → Rat
  | some x => valF x
  | none => 0
def toR (D : QD) : RD := (D.num, fun k => valO (D.B k), fun k j => valO (D.S k j), D.so)
theorem int_val (z : Int) : valF (z, 1) = (z : Rat) := by unfold valF; grind
theorem onS_cases {N : Nat} {lm : Nat → Int} {k : Nat} (o : onS N lm k = true) : (k < 5 ∧ k < N) ∨ (∃ i, k = 5 + i ∧ i < 4 ∧ i + 1 < N ∧ lm i ≠ -1) ∨ k = 9 := by
  rcases Nat.lt_or_ge k 5 with q | q
  · rw [onS_lo q] at o
    exact Or.inl ⟨q, of_decide_eq_true o⟩
  · rcases Nat.lt_or_ge k 9 with q2 | q2
    · obtain ⟨i, rfl⟩ : ∃ i, k = 5 + i := ⟨k - 5, by omega⟩
      rw [onS_hi (by omega)] at o
      have := of_decide_eq_true o
      exact Or.inr (Or.inl ⟨i, rfl, by omega, this⟩)
    · unfold onS at o
      rw [if_neg (by omega), if_neg (by omega)] at o
      exact Or.inr (Or.inr (of_decide_eq_true o))
theorem onS_lt (N : Nat) (lm : Nat → Int) : onLt (onS N lm) := fun k o => by
  rcases onS_cases o with h | ⟨i, h⟩ | h <;> omega
theorem start_ok {N n : Nat} {rr : F1} {v : Nat → Nat → Int} {du lm pr : Nat → Int} (hg : DatR N n rr v du lm pr) : GoodQ n (onS N lm) (startQ n rr v du lm pr) ∧ TailQ n (onS N lm) (startQ n rr v du lm pr) ∧ okQ n (onS N lm) (startQ n rr v du lm pr) := by
  obtain ⟨hN, hn, hd, hp⟩ := hg
  have hrr : ∀ i, i < N → 0 ≤ rr i ∧ rr i ≤ 9 := fun i hi => (hd i hi).1
  have hdu : ∀ i, i < N → -20000 ≤ nego du i ∧ nego du i ≤ 20000 := fun i hi => by
    have := (hd i hi).2.1
    unfold nego
    omega
  have hv : ∀ j, j < n → ∀ i, i < N → -20000 ≤ v j i ∧ v j i ≤ 20000 := fun j hj i hi => by
    have := (hd i hi).2.2.2 j hj
    omega
  have bF : ∀ i, i < N → FrO (carryC rr (nego du) i) := carryC_Fr hrr (fun i hi => by have := hdu i hi; omega)
  have sF : ∀ j, j < n → ∀ i, i < N → FrO (carryC rr (v j) i) := fun j hj => carryC_Fr hrr (fun i hi => by have := hv j hj i hi; omega)
  have all : ∀ k, onS N lm k = true → (FrO ((startQ n rr v du lm pr).B k) ∧ (startQ n rr v du lm pr).B k ≠ none) ∧ ∀ j, j < n → FrO ((startQ n rr v du lm pr).S k j) ∧ (startQ n rr v du lm pr).S k j ≠ none := by
    intro k o
    rcases onS_cases o with ⟨h1, h2⟩ | ⟨i, rfl, h1, h2, h3⟩ | rfl
    · rw [st_B, if_pos h1]
      refine ⟨⟨bF k h2, small_ne (carry_small hN hrr hdu h2)⟩, fun j hj => ?_⟩
      rw [st_S, if_neg (by omega), if_pos h1]
      exact ⟨sF j hj k h2, small_ne (carry_small hN hrr (hv j hj) h2)⟩
    · have hl := (hd i (by omega)).2.2.1
      rw [st_B, if_neg (by omega), if_pos (by omega), show 5 + i - 5 = i by omega]
      refine ⟨⟨ob_add_Fr (map_neg_Fr (bF i (by omega))) (int_Fr (by omega)), small_ne (add_small (V := 100) (neg_small (carry_small hN hrr hdu (show i < N by omega))) (by omega) (by decide) (by decide))⟩, fun j hj => ?_⟩
      rw [st_S, if_neg (by omega), if_neg (by omega), if_pos (by omega), show 5 + i - 5 = i by omega]
      exact ⟨map_neg_Fr (sF j hj i (by omega)), small_ne (neg_small (carry_small hN hrr (hv j hj) (show i < N by omega)))⟩
    · refine ⟨⟨int_Fr (by decide), fun z => by cases z⟩, fun j hj => ?_⟩
      have := hp j hj
      rw [st_S, if_neg (by omega), if_neg (by omega), if_neg (by omega)]
      exact ⟨int_Fr (by omega), fun z => by cases z⟩
  refine ⟨⟨fun k _ o => ⟨(all k o).1.1, fun j hj => ((all k o).2 j hj).1⟩, toR (startQ n rr v du lm pr), ?_, ?_⟩, ?_, fun k _ o => ⟨(all k o).1.2, fun j hj => ((all k o).2 j hj).2⟩⟩
  · refine ⟨rfl, rfl, fun k hk o => ?_, fun j hj => ⟨j, by omega, ?_⟩, fun k k' hk hk' o o' e => ?_, fun j j' _ _ e => e, fun k j hk o hj e => ?_, fun j hj => ?_⟩
    · show isV ((startQ n rr v du lm pr).num k)
      rw [st_num]
      rcases onS_cases o with ⟨h1, h2⟩ | ⟨i, rfl, h1, h2, h3⟩ | rfl
      · rw [if_pos h1]
        refine ⟨5 + k, by omega, ?_⟩
        unfold vid
        rw [if_neg (by omega), if_pos (by omega)]
        omega
      · rw [if_neg (by omega), if_pos hk]
        refine ⟨10 + i, by omega, ?_⟩
        unfold vid
        rw [if_neg (by omega), if_neg (by omega)]
        omega
      · omega
    · unfold vid
      rw [if_pos (by omega)]
      rfl
    · have e : (startQ n rr v du lm pr).num k = (startQ n rr v du lm pr).num k' := e
      rw [st_num, st_num, if_pos hk, if_pos hk'] at e
      split at e <;> split at e <;> omega
    · have e : (startQ n rr v du lm pr).num k = j := e
      rw [st_num, if_pos hk] at e
      split at e <;> omega
    · show 0 ≤ valO ((startQ n rr v du lm pr).S 9 j)
      rw [st_S, if_neg (by omega), if_neg (by omega), if_neg (by omega)]
      show 0 ≤ valF (pr j, 1)
      rw [int_val]
      exact Rat.intCast_nonneg.mpr (hp j hj).1
  · refine ⟨fun k hk o => ⟨rfl, fun x e => ?_, fun j hj x e => ?_⟩, fun _ _ => rfl⟩
    · show valO ((startQ n rr v du lm pr).B k) = _
      rw [e]
      rfl
    · show valO ((startQ n rr v du lm pr).S k j) = _
      rw [e]
      rfl
  · intro k _ o j h1 h2
    rw [st_S, if_pos h1]
    exact fun z => by cases z
