/-! sums over days, gathered by rungs -/
theorem sumP_congr {f g : F1} : ∀ {n : Nat}, (∀ k, 1 ≤ k → k ≤ n → f k = g k) → sumP f n = sumP g n
  | 0, _ => rfl
  | n + 1, h => by
    unfold sumP
    rw [sumP_congr (n := n) (fun k a b => h k a (by omega)), h (n + 1) (by omega) (Nat.le_refl _)]
theorem sumP_add (f g : F1) : ∀ n : Nat, sumP (fun k => f k + g k) n = sumP f n + sumP g n
  | 0 => rfl
  | n + 1 => by
    have := sumP_add f g n
    unfold sumP
    rw [this]
    omega
theorem sumP_zero {f : F1} : ∀ {n : Nat}, (∀ k, 1 ≤ k → k ≤ n → f k = 0) → sumP f n = 0
  | 0, _ => rfl
  | n + 1, h => by
    unfold sumP
    rw [sumP_zero (n := n) (fun k a b => h k a (by omega)), h (n + 1) (by omega) (Nat.le_refl _)]
    rfl
theorem sumP_nonneg {f : F1} : ∀ {n : Nat}, (∀ k, 1 ≤ k → k ≤ n → 0 ≤ f k) → 0 ≤ sumP f n
  | 0, _ => Int.le_refl 0
  | n + 1, h => by
    have h1 := sumP_nonneg (n := n) (fun k a b => h k a (by omega))
    have h2 := h (n + 1) (by omega) (Nat.le_refl _)
    unfold sumP
    omega
theorem sumP_le {f : F1} {b : Int} : ∀ {n : Nat}, (∀ k, 1 ≤ k → k ≤ n → f k ≤ b) → sumP f n ≤ b * (n : Int)
  | 0, _ => by simp [sumP]
  | n + 1, h => by
    have h1 := sumP_le (n := n) (fun k a b => h k a (by omega))
    have h2 := h (n + 1) (by omega) (Nat.le_refl _)
    unfold sumP
    rw [show ((n + 1 : Nat) : Int) = (n : Int) + 1 by omega, Int.mul_add, Int.mul_one]
    omega
theorem sumP_pos_iff {f : F1} : ∀ {n : Nat}, (∀ k, 1 ≤ k → k ≤ n → 0 ≤ f k) → (0 < sumP f n ↔ ∃ k, 1 ≤ k ∧ k ≤ n ∧ 0 < f k)
  | 0, _ => by
    constructor
    · intro h; exact absurd (show (0 : Int) < 0 from h) (by decide)
    · rintro ⟨k, a, b, _⟩; omega
  | n + 1, h => by
    have ih := sumP_pos_iff (n := n) (fun k a b => h k a (by omega))
    have h1 := sumP_nonneg (n := n) (fun k a b => h k a (by omega))
    have h2 := h (n + 1) (by omega) (Nat.le_refl _)
    unfold sumP
    constructor
    · intro q
      by_cases z : 0 < f (n + 1)
      · exact ⟨n + 1, by omega, Nat.le_refl _, z⟩
      · obtain ⟨k, a, b, c⟩ := ih.mp (by omega)
        exact ⟨k, a, by omega, c⟩
    · rintro ⟨k, a, b, c⟩
      by_cases z : k = n + 1
      · subst z; omega
      · have := ih.mpr ⟨k, a, by omega, c⟩
        omega
/-- sums by rungs, of one bond's payings p; C counts the rungs ahead of the next day -/
def atR (C : Nat → Nat) (p : F1) (m i : Nat) : Int := sumP (fun k => if C (k - 1) = i then p k else 0) m
def allR (C : Nat → Nat) (p : F1) (m : Nat) : Nat → Int
  | 0 => 0
  | i + 1 => allR C p m i + atR C p m i
def lastR (C : Nat → Nat) (p : F1) (m : Nat) : Nat → Int
  | 0 => -1
  | i + 1 => if 0 < atR C p m i then (i : Int) else lastR C p m i
theorem allR_eq (C : Nat → Nat) (p : F1) (m : Nat) : ∀ n, allR C p m n = sumP (fun k => if C (k - 1) < n then p k else 0) m
  | 0 => (sumP_zero (fun k _ _ => by simp)).symm
  | n + 1 => by
    show allR C p m n + atR C p m n = _
    rw [allR_eq C p m n]
    unfold atR
    rw [← sumP_add]
    refine sumP_congr fun k a b => ?_
    by_cases q : C (k - 1) < n
    · rw [if_pos q, if_neg (by omega), if_pos (by omega)]; omega
    · by_cases q2 : C (k - 1) = n
      · rw [if_neg q, if_pos q2, if_pos (by omega)]; omega
      · rw [if_neg q, if_neg q2, if_neg (by omega)]; omega
theorem lastR_none {C : Nat → Nat} {p : F1} {m : Nat} : ∀ {n : Nat}, (∀ i, i < n → ¬ 0 < atR C p m i) → lastR C p m n = -1
  | 0, _ => rfl
  | n + 1, h => by
    unfold lastR
    rw [if_neg (h n (by omega))]
    exact lastR_none (n := n) (fun i hi => h i (by omega))
theorem lastR_some {C : Nat → Nat} {p : F1} {m i : Nat} (h1 : 0 < atR C p m i) : ∀ {n : Nat}, i < n → (∀ j, i < j → j < n → ¬ 0 < atR C p m j) → lastR C p m n = (i : Int)
  | 0, h, _ => absurd h (Nat.not_lt_zero _)
  | n + 1, h, h2 => by
    unfold lastR
    by_cases q : i = n
    · subst q; rw [if_pos h1]
    · rw [if_neg (h2 n (by omega) (by omega))]
      exact lastR_some h1 (n := n) (by omega) (fun j a b => h2 j a (by omega))
theorem lastR_range (C : Nat → Nat) (p : F1) (m : Nat) : ∀ n, lastR C p m n = -1 ∨ ∃ i, i < n ∧ lastR C p m n = (i : Int)
  | 0 => Or.inl rfl
  | n + 1 => by
    unfold lastR
    split
    · exact Or.inr ⟨n, by omega, rfl⟩
    · rcases lastR_range C p m n with h | ⟨i, h1, h2⟩
      · exact Or.inl h
      · exact Or.inr ⟨i, by omega, h2⟩
theorem gather_gen {s b : Nat} (hs : SC s) (hb : b < 5) {M : Mem} {Q : Mem → Prop} (C : Nat → Nat) (n : Nat) (p : F1) (hn : n ≤ 5) (hm : ∀ i j, i ≤ j → C i ≤ C j) (hG : ∀ k, k < 60 → M (s + 5) (k + 1) = if C k < n then (C k : Int) else -1) (hp : ∀ k, 1 ≤ k → k ≤ 60 → M (s + 8 + b) k = p k ∧ 0 ≤ p k ∧ p k ≤ 300)
    (h : ∀ M' : Mem, (∀ i, i < n → M' (s + 14 + b) i = atR C p 60 i) → M' (s + 19) b = allR C p 60 n → M' (s + 20) b = lastR C p 60 n → (∀ k j, k ≠ s + 14 + b → ¬ (k = s + 19 ∧ j = b) → ¬ (k = s + 20 ∧ j = b) → M' k j = M k j) → Q M') : wp_X8_gatherPayings s (b : Int) M Q := by
  have hsb := SC_big hs
  have l5 := (SC_ln hs).2.2.2.2.1
  have l7 := (SC_ln hs).2.2.2.2.2.2.1
  have l13 := (SC_ln hs).2.2.2.2.2.2.2.1
  have l19 := (SC_ln hs).2.2.2.2.2.2.2.2.1
  have l20 := (SC_ln hs).2.2.2.2.2.2.2.2.2
  have l8 := SC_ln8 hs b hb
  have l14 := SC_ln14 hs b hb
  unfold wp_X8_gatherPayings
  rw [(SC_rt hs).2.2.2.2.2.2.2.1, (SC_rt hs).2.2.2.2.2.2.2.2.1, (SC_rt hs).2.2.2.2.2.2.2.2.2, ixn (show b < 2147483648 by omega), SC_rt13 hs b hb]
  refine ⟨inbn l13 hb, fill_ok l14 (fun M7 z1 z2 => ⟨inbn l19 hb, ?_⟩)⟩
  rintro M16 rfl
  refine ⟨inbn l20 hb, ?_⟩
  rintro M23 rfl
  refine ⟨fun M' x2 => ∃ m : Nat, x2 = ((m + 1 : Nat) : Int) ∧ m ≤ 60 ∧ (∀ i, i < n → M' (s + 14 + b) i = atR C p m i) ∧ M' (s + 19) b = sumP (fun k => if C (k - 1) < n then p k else 0) m ∧ ((M' (s + 20) b = -1 ∧ ∀ k, 1 ≤ k → k ≤ m → C (k - 1) < n → p k = 0) ∨ ∃ i, i < n ∧ M' (s + 20) b = (i : Int) ∧ (∃ k, 1 ≤ k ∧ k ≤ m ∧ C (k - 1) = i ∧ 0 < p k) ∧ ∀ k, 1 ≤ k → k ≤ m → C (k - 1) < n → i < C (k - 1) → p k = 0) ∧ (∀ k j, k ≠ s + 14 + b → ¬ (k = s + 19 ∧ j = b) → ¬ (k = s + 20 ∧ j = b) → M' k j = M k j), fun _ x2 => (61 - x2).toNat, ⟨0, rfl, Nat.zero_le _, fun i hi => ?_, ?_, Or.inl ⟨?_, fun k a b => by omega⟩, fun k j k1 k2 k3 => ?_⟩, ?_⟩
  · rw [st2_n _ _ (by omega), st2_n _ _ (by omega), z1 i (by omega)]; rfl
  · rw [st2_n _ _ (by omega), st2_s]; rfl
  · exact st2_s _ _ _ _
  · rw [st2_n _ _ k3, st2_n _ _ k2]
    exact z2 k j (fun q => k1 q.1)
  rintro M1 x2 ⟨m, rfl, hmm, f1, f2, f3, f4⟩
  unfold wp_X8_gatherPayings_B26 wp_X8_gatherPayings_b98
  dsimp only
  rw [wl_60, wm_1, w32n (show m + 1 < 2147483648 by omega), ixn (show m + 1 < 2147483648 by omega), (SC_rt hs).2.2.2.2.1, (SC_rt hs).2.2.2.2.2.2.1, (SC_rt hs).2.2.2.2.2.2.2.1, (SC_rt hs).2.2.2.2.2.2.2.2.1, (SC_rt hs).2.2.2.2.2.2.2.2.2, ixn (show b < 2147483648 by omega), SC_rt13 hs b hb, SC_rt7 hs b hb]
  refine ⟨fun u => ?_, fun u => ⟨inbn l5 (by omega), ?_⟩⟩
  · have : m = 60 := by omega
    subst this
    refine h M1 f1 (by rw [f2, allR_eq]) ?_ f4
    have pz : ∀ i, i < n → (0 < atR C p 60 i ↔ ∃ k, 1 ≤ k ∧ k ≤ 60 ∧ 0 < (if C (k - 1) = i then p k else 0)) := fun i hi => sumP_pos_iff (fun k a b => by
      split
      · exact (hp k a b).2.1
      · exact Int.le_refl 0)
    rcases f3 with ⟨g1, g2⟩ | ⟨i, g1, g2, ⟨k, g3, g4, g5, g6⟩, g7⟩
    · rw [g1, lastR_none]
      intro i hi q
      obtain ⟨k, a1, a2, a3⟩ := (pz i hi).mp q
      by_cases z : C (k - 1) = i
      · rw [if_pos z] at a3
        have := g2 k a1 a2 (by omega)
        omega
      · rw [if_neg z] at a3; omega
    · rw [g2, lastR_some ((pz i g1).mpr ⟨k, g3, g4, by rw [if_pos g5]; exact g6⟩) g1]
      intro j j1 j2 q
      obtain ⟨k, a1, a2, a3⟩ := (pz j j2).mp q
      by_cases z : C (k - 1) = j
      · rw [if_pos z] at a3
        have := g7 k a1 a2 (by omega) (by omega)
        omega
      · rw [if_neg z] at a3; omega
  have hm60 : m < 60 := by omega
  have hG1 := hG m hm60
  obtain ⟨p1, p2, p3⟩ := hp (m + 1) (by omega) (by omega)
  rw [f4 (s + 5) _ (by omega) (by omega) (by omega), hG1, f4 (s + 8 + b) _ (by omega) (by omega) (by omega), p1, w32_id (z := p (m + 1)) (by omega) (by omega)]
  have aS : ∀ i, atR C p (m + 1) i = atR C p m i + if C m = i then p (m + 1) else 0 := fun i => rfl
  have sS : sumP (fun k => if C (k - 1) < n then p k else 0) (m + 1) = sumP (fun k => if C (k - 1) < n then p k else 0) m + if C m < n then p (m + 1) else 0 := rfl
  -- nothing counts on this day
  have skip : (¬ C m < n ∨ p (m + 1) = 0) → (∃ m' : Nat, ((m + 1 : Nat) : Int) + 1 = ((m' + 1 : Nat) : Int) ∧ m' ≤ 60 ∧ (∀ i, i < n → M1 (s + 14 + b) i = atR C p m' i) ∧ M1 (s + 19) b = sumP (fun k => if C (k - 1) < n then p k else 0) m' ∧ ((M1 (s + 20) b = -1 ∧ ∀ k, 1 ≤ k → k ≤ m' → C (k - 1) < n → p k = 0) ∨ ∃ i, i < n ∧ M1 (s + 20) b = (i : Int) ∧ (∃ k, 1 ≤ k ∧ k ≤ m' ∧ C (k - 1) = i ∧ 0 < p k) ∧ ∀ k, 1 ≤ k → k ≤ m' → C (k - 1) < n → i < C (k - 1) → p k = 0) ∧ (∀ k j, k ≠ s + 14 + b → ¬ (k = s + 19 ∧ j = b) → ¬ (k = s + 20 ∧ j = b) → M1 k j = M k j)) := by
    intro hsk
    refine ⟨m + 1, by omega, by omega, fun i hi => ?_, ?_, ?_, f4⟩
    · rw [aS, f1 i hi]
      split
      · rcases hsk with q | q
        · omega
        · omega
      · omega
    · rw [sS, f2]
      split
      · rcases hsk with q | q
        · omega
        · omega
      · omega
    · have ex : ∀ k, 1 ≤ k → k ≤ m + 1 → C (k - 1) < n → ¬ k ≤ m → p k = 0 := by
        intro k a1 a2 a3 a4
        have : k = m + 1 := by omega
        subst this
        rcases hsk with q | q
        · exact absurd a3 q
        · exact q
      rcases f3 with ⟨g1, g2⟩ | ⟨i, g1, g2, ⟨k, g3, g4, g5, g6⟩, g7⟩
      · refine Or.inl ⟨g1, fun k a1 a2 a3 => ?_⟩
        by_cases z : k ≤ m
        · exact g2 k a1 z a3
        · exact ex k a1 a2 a3 z
      · refine Or.inr ⟨i, g1, g2, ⟨k, g3, by omega, g5, g6⟩, fun k a1 a2 a3 a4 => ?_⟩
        by_cases z : k ≤ m
        · exact g7 k a1 z a3 a4
        · exact ex k a1 a2 a3 z
  refine ⟨fun u2 => ⟨skip (Or.inl (fun z => ?_)), by omega⟩, fun u2 => ?_⟩
  · rw [if_pos z] at u2
    rw [w32n (show C m < 2147483648 by omega)] at u2
    omega
  by_cases hc : C m < n
  case neg => rw [if_neg hc] at u2; exact absurd rfl u2
  rw [if_pos hc]
  refine ⟨inbn l7 hb, inbn l8 (by omega), fun u3 => ⟨skip (Or.inr (by omega)), by omega⟩, fun u3 => ?_⟩
  refine ⟨inbn l13 hb, inbn l14 (by omega), inbn l7 hb, inbn l8 (by omega), inbn l14 (by omega), ?_⟩
  rw [ixn (show C m < 2147483648 by omega), f1 _ hc]
  rintro M73 rfl
  refine ⟨inbn l19 hb, inbn l7 hb, inbn l8 (by omega), inbn l19 hb, ?_⟩
  rw [st2_off M1 _ (show s + 19 ≠ s + 14 + b by omega), st2_off M1 _ (show s + 8 + b ≠ s + 14 + b by omega), f2, f4 (s + 8 + b) _ (by omega) (by omega) (by omega), p1]
  rintro M90 rfl
  refine ⟨inbn l20 hb, ?_⟩
  rintro M97 rfl
  refine ⟨⟨m + 1, by omega, by omega, fun i hi => ?_, ?_, ?_, fun k j k1 k2 k3 => ?_⟩, by omega⟩
  · rw [st2_off _ _ (show s + 14 + b ≠ s + 20 by omega), st2_off _ _ (show s + 14 + b ≠ s + 19 by omega), aS]
    by_cases q : C m = i
    · subst q; rw [st2_s, if_pos rfl]
    · rw [st2_n _ _ (by omega), f1 i hi, if_neg q]; omega
  · rw [st2_off _ _ (show s + 19 ≠ s + 20 by omega), st2_s, sS, if_pos hc]
  · refine Or.inr ⟨C m, hc, st2_s _ _ _ _, ⟨m + 1, by omega, Nat.le_refl _, rfl, by omega⟩, fun k a1 a2 a3 a4 => ?_⟩
    have := hm (k - 1) m (by omega)
    omega
  · rw [st2_n _ _ k3, st2_n _ _ k2, st2_n _ _ (fun z => k1 z.1)]
    exact f4 k j k1 k2 k3
