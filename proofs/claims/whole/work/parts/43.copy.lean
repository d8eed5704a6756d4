/-! copying among sheets -/
theorem hasItems_iff {j : Nat} {a n : Int} {M : Mem} {Q : Bool → Prop} {z : Int} (h : M (181 + 2 * j) 2 = z) (hz : 0 ≤ z ∧ z ≤ 40) (ha : R32 a) (hn : R32 n) : wp_X9_hasItems (181 + 2 * j) a n M Q ↔ Q (decide (0 ≤ a ∧ 0 ≤ n ∧ a + n ≤ z)) := by
  obtain ⟨a1, a2⟩ := ha
  obtain ⟨n1, n2⟩ := hn
  unfold wp_X9_hasItems
  rw [h, w32_id a1 a2, w32_id n1 n2]
  by_cases q : 0 ≤ n
  · rw [w32_id (z := z - n) (by omega) (by omega)]
    by_cases q2 : 0 ≤ a
    · by_cases q3 : a + n ≤ z
      · rw [decide_eq_true (show 0 ≤ a ∧ 0 ≤ n ∧ a + n ≤ z from ⟨q2, q, q3⟩)]
        exact ⟨fun x => (x.2 (by omega)).2 (by omega) |>.2 (by omega), fun x => ⟨fun y => by omega, fun _ => ⟨fun y => by omega, fun _ => ⟨fun y => by omega, fun _ => x⟩⟩⟩⟩
      · rw [decide_eq_false (fun x : 0 ≤ a ∧ 0 ≤ n ∧ a + n ≤ z => q3 x.2.2)]
        exact ⟨fun x => (x.2 (by omega)).2 (by omega) |>.1 (by omega), fun x => ⟨fun y => by omega, fun _ => ⟨fun y => by omega, fun _ => ⟨fun _ => x, fun y => by omega⟩⟩⟩⟩
    · rw [decide_eq_false (fun x : 0 ≤ a ∧ 0 ≤ n ∧ a + n ≤ z => q2 x.1)]
      exact ⟨fun x => x.1 (by omega), fun x => ⟨fun _ => x, fun y => by omega⟩⟩
  · rw [decide_eq_false (fun x : 0 ≤ a ∧ 0 ≤ n ∧ a + n ≤ z => q x.2.1)]
    by_cases q2 : 0 ≤ a
    · exact ⟨fun x => (x.2 (by omega)).1 (by omega), fun x => ⟨fun y => by omega, fun _ => ⟨fun _ => x, fun y => by omega⟩⟩⟩
    · exact ⟨fun x => x.1 (by omega), fun x => ⟨fun _ => x, fun y => by omega⟩⟩
/-- what copying comes to, in the reference's row of items -/
theorem copyUp_ok {s o i j n : Nat} {M : Mem} {Q : Int → Mem → Prop} (hs : 40 * s + i + n ≤ 160) (ho : 40 * o + j + n ≤ 160) (hd : ∀ c k, c < k → k < n → 40 * o + j + c ≠ 40 * s + i + k) (h : ∀ M' : Mem, (∀ c, c < n → M' 211 (40 * o + j + c) = M 211 (40 * s + i + c)) → (∀ k c, ¬ (k = 211 ∧ 40 * o + j ≤ c ∧ c < 40 * o + j + n) → M' k c = M k c) → Q (n : Int) M') : wp_X12_copy_b168 189 Q M (s : Int) (i : Int) (o : Int) (j : Int) (n : Int) := by
  refine ⟨fun M' x6 => ∃ m : Nat, x6 = (m : Int) ∧ m ≤ n ∧ (∀ c, c < m → M' 211 (40 * o + j + c) = M 211 (40 * s + i + c)) ∧ (∀ k c, ¬ (k = 211 ∧ 40 * o + j ≤ c ∧ c < 40 * o + j + m) → M' k c = M k c), fun _ x6 => ((n : Int) - x6).toNat, ⟨0, rfl, Nat.zero_le _, fun c hc => by omega, fun _ _ _ => rfl⟩, ?_⟩
  rintro M1 x6 ⟨m, rfl, hm, f1, f2⟩
  unfold wp_X12_copy_B171
  dsimp only
  rw [w32n (show n < 2147483648 by omega), w32n (show m < 2147483648 by omega), rtv_189_33, show (40 : Int) * (s : Int) + (i : Int) + (m : Int) = ((40 * s + i + m : Nat) : Int) by omega, show (40 : Int) * (o : Int) + (j : Int) + (m : Int) = ((40 * o + j + m : Nat) : Int) by omega]
  refine ⟨fun u => ?_, fun u => ⟨inbn LN_211 (by omega), inbn LN_211 (by omega), ?_⟩⟩
  · have : m = n := by omega
    subst this
    exact h M1 f1 f2
  · rw [ixn (show 40 * s + i + m < 2147483648 by omega), ixn (show 40 * o + j + m < 2147483648 by omega), f2 211 (40 * s + i + m) (fun z => hd (40 * s + i + m - (40 * o + j)) m (by omega) (by omega) (by omega))]
    rintro M206 rfl
    refine ⟨⟨m + 1, by omega, by omega, fun c hc => ?_, fun k c hk => ?_⟩, by omega⟩
    · by_cases q : c = m
      · subst q; exact st2_s _ _ _ _
      · rw [st2_n _ _ (by omega)]; exact f1 c (by omega)
    · rw [st2_n _ _ (by omega)]; exact f2 k c (by omega)
theorem copyDown_ok {s o i j n : Nat} {M : Mem} {Q : Int → Mem → Prop} (hs : 40 * s + i + n ≤ 160) (ho : 40 * o + j + n ≤ 160) (hd : ∀ c k, k < c → c < n → 40 * o + j + c ≠ 40 * s + i + k) (h : ∀ M' : Mem, (∀ c, c < n → M' 211 (40 * o + j + c) = M 211 (40 * s + i + c)) → (∀ k c, ¬ (k = 211 ∧ 40 * o + j ≤ c ∧ c < 40 * o + j + n) → M' k c = M k c) → Q (n : Int) M') : wp_X12_copy_L125 189 Q M (s : Int) (i : Int) (o : Int) (j : Int) (n : Int) ((n : Int) - 1) := by
  refine ⟨fun M' x6 => ∃ m : Nat, x6 = (m : Int) - 1 ∧ m ≤ n ∧ (∀ c, m ≤ c → c < n → M' 211 (40 * o + j + c) = M 211 (40 * s + i + c)) ∧ (∀ k c, ¬ (k = 211 ∧ 40 * o + j + m ≤ c ∧ c < 40 * o + j + n) → M' k c = M k c), fun _ x6 => (x6 + 1).toNat, ⟨n, rfl, Nat.le_refl _, fun c hc => by omega, fun _ _ _ => rfl⟩, ?_⟩
  rintro M1 x6 ⟨m, rfl, hm, f1, f2⟩
  unfold wp_X12_copy_B125
  dsimp only
  rw [w32_id (z := (m : Int) - 1) (by omega) (by omega), rtv_189_33]
  refine ⟨fun u => ?_, fun u => ?_⟩
  · have : m = 0 := by omega
    subst this
    exact h M1 (fun c hc => f1 c (Nat.zero_le _) hc) (fun k c hk => f2 k c (by omega))
  · obtain ⟨p, rfl⟩ : ∃ p, m = p + 1 := ⟨m - 1, by omega⟩
    rw [show (40 : Int) * (s : Int) + (i : Int) + (((p + 1 : Nat) : Int) - 1) = ((40 * s + i + p : Nat) : Int) by omega, show (40 : Int) * (o : Int) + (j : Int) + (((p + 1 : Nat) : Int) - 1) = ((40 * o + j + p : Nat) : Int) by omega]
    refine ⟨inbn LN_211 (by omega), inbn LN_211 (by omega), ?_⟩
    rw [ixn (show 40 * s + i + p < 2147483648 by omega), ixn (show 40 * o + j + p < 2147483648 by omega), f2 211 (40 * s + i + p) (fun z => hd (40 * s + i + p - (40 * o + j)) p (by omega) (by omega) (by omega))]
    rintro M158 rfl
    refine ⟨⟨p, by omega, by omega, fun c hc hc2 => ?_, fun k c hk => ?_⟩, by omega⟩
    · by_cases q : c = p
      · subst q; exact st2_s _ _ _ _
      · rw [st2_n _ _ (by omega)]; exact f1 c (by omega) hc2
    · rw [st2_n _ _ (by omega)]; exact f2 k c (by omega)
theorem X12_copy_ok {DK : Mem → Prop} {M : Mem} (hI : Inv DK M) {a1 a2 a3 a4 a5 : Int} (h1 : R32 a1) (h2 : R32 a2) (h3 : R32 a3) (h4 : R32 a4) (h5 : R32 a5) {M1 : Mem} {P : Int → Mem → Prop} (e9 : ∀ k c, 189 ≤ k → M1 k c = M k c)
    (c1 : ¬ ((0 ≤ a1 ∧ a1 ≤ 3) ∧ (0 ≤ a3 ∧ a3 ≤ 3)) → P (-2) M1)
    (c2 : ∀ s o : Nat, a1 = (s : Int) → a3 = (o : Int) → s < 4 → o < 4 → (M 209 s = 0 ∨ M 209 o = 0) → P (-11) M1)
    (c3 : ∀ s o : Nat, a1 = (s : Int) → a3 = (o : Int) → s < 4 → o < 4 → ¬ (M 209 s = 0 ∨ M 209 o = 0) → M 209 s ≠ M 209 o → P (-13) M1)
    (c4 : ∀ s o : Nat, a1 = (s : Int) → a3 = (o : Int) → s < 4 → o < 4 → ¬ (M 209 s = 0 ∨ M 209 o = 0) → M 209 s = M 209 o → ¬ ((0 ≤ a2 ∧ 0 ≤ a5 ∧ a2 + a5 ≤ M 210 s) ∧ (0 ≤ a4 ∧ 0 ≤ a5 ∧ a4 + a5 ≤ M 210 o)) → P (-12) M1)
    (c5 : ∀ s o i j n : Nat, a1 = (s : Int) → a3 = (o : Int) → a2 = (i : Int) → a4 = (j : Int) → a5 = (n : Int) → s < 4 → o < 4 → ¬ (M 209 s = 0 ∨ M 209 o = 0) → M 209 s = M 209 o → ((i : Int) + (n : Int) ≤ M 210 s) → ((j : Int) + (n : Int) ≤ M 210 o) → ∀ M2 : Mem, (∀ c, c < n → M2 211 (40 * o + j + c) = M1 211 (40 * s + i + c)) → (∀ k c, ¬ (k = 211 ∧ 40 * o + j ≤ c ∧ c < 40 * o + j + n) → M2 k c = M1 k c) → P (n : Int) M2) : wp_X12_copy 189 a1 a2 a3 a4 a5 M1 P := by
  unfold wp_X12_copy wp_X12_isSheet
  rw [X12_within_iff, wl_0, wl_3, w32_R h1]
  refine dcf (fun e1 => ?_) (fun e1 => c1 (fun z => e1 z.1))
  rw [X12_within_iff, wl_0, wl_3, w32_R h3]
  refine dct (fun e2 => ?_) (fun e2 => c1 (fun z => e2 z.2))
  obtain ⟨s, rfl⟩ : ∃ s : Nat, a1 = (s : Int) := ⟨a1.toNat, by omega⟩
  obtain ⟨o, rfl⟩ : ∃ o : Nat, a3 = (o : Int) := ⟨a3.toNat, by omega⟩
  have hs : s < 4 := by omega
  have ho : o < 4 := by omega
  obtain ⟨w1, w2, w3, w4, w5, w6, w7, w8'⟩ := InvS_j hI hs
  obtain ⟨v1, v2, v3, v4, v5, v6, v7, v8'⟩ := InvS_j hI ho
  have c2 := c2 s o rfl rfl hs ho
  have c3 := c3 s o rfl rfl hs ho
  have c4 := c4 s o rfl rfl hs ho
  rw [rtv_189_31, rtv_189_32, ixn (show s < 2147483648 by omega), ixn (show o < 2147483648 by omega), e9 209 s (by omega), e9 209 o (by omega), e9 210 s (by omega), e9 210 o (by omega), w32_id (z := M 209 s) (by omega) (by omega), w32_id (z := M 209 o) (by omega) (by omega), w32_id (z := M 210 s) (by omega) (by omega), w32_id (z := M 210 o) (by omega) (by omega), w32_R h2, w32_R h4, w32_R h5]
  obtain ⟨a21, a22⟩ := h2
  obtain ⟨a41, a42⟩ := h4
  obtain ⟨a51, a52⟩ := h5
  rw [w64_id (z := M 210 s) (by omega) (by omega), w64_id (z := M 210 o) (by omega) (by omega), w64_id (z := a2 + a5) (by omega) (by omega), w64_id (z := a4 + a5) (by omega) (by omega)]
  refine ⟨inbn LN_209 hs, fun u1 => c2 (Or.inl u1), fun u1 => ⟨inbn LN_209 ho, fun u2 => ⟨inbn LN_209 hs, inbn LN_209 ho, fun u3 => ?_, fun u3 => c3 (by omega) u3⟩, fun u2 => c2 (Or.inr (by omega))⟩⟩
  have c4 := c4 (by omega) u3
  refine ⟨fun u4 => c4 (by omega), fun u4 => ⟨fun u5 => c4 (by omega), fun u5 => ⟨fun u6 => c4 (by omega), fun u6 => ⟨inbn LN_210 hs, fun u7 => c4 (by omega), fun u7 => ⟨inbn LN_210 ho, fun u8 => ?_, fun u8 => c4 (by omega)⟩⟩⟩⟩⟩
  obtain ⟨i, rfl⟩ : ∃ i : Nat, a2 = (i : Int) := ⟨a2.toNat, by omega⟩
  obtain ⟨j, rfl⟩ : ∃ j : Nat, a4 = (j : Int) := ⟨a4.toNat, by omega⟩
  obtain ⟨n, rfl⟩ : ∃ n : Nat, a5 = (n : Int) := ⟨a5.toNat, by omega⟩
  have c5 := c5 s o i j n rfl rfl rfl rfl rfl hs ho (by omega) u3 (by omega) (by omega)
  refine ⟨fun u => copyUp_ok (by omega) (by omega) (fun c k q1 q2 => by omega) c5, fun u => ⟨fun u2 => copyUp_ok (by omega) (by omega) (fun c k q1 q2 => by omega) c5, fun u2 => copyDown_ok (by omega) (by omega) (fun c k q1 q2 => by omega) c5⟩⟩
theorem step_30 {DK : Mem → Prop} (hD : KeptH DK) : Step_30 (Inv DK) := by
  intro M hI a1 a2 a3 a4 a5 h1 h2 h3 h4 h5
  have no : ∀ (r : Int), (¬ ((0 ≤ a1 ∧ a1 ≤ 3) ∧ (0 ≤ a3 ∧ a3 ≤ 3)) → r = -2) →
    (∀ s o : Nat, a1 = (s : Int) → a3 = (o : Int) → s < 4 → o < 4 → (M 209 s = 0 ∨ M 209 o = 0) → r = -11) →
    (∀ s o : Nat, a1 = (s : Int) → a3 = (o : Int) → s < 4 → o < 4 → ¬ (M 209 s = 0 ∨ M 209 o = 0) → M 209 s ≠ M 209 o → r = -13) →
    (∀ s o : Nat, a1 = (s : Int) → a3 = (o : Int) → s < 4 → o < 4 → ¬ (M 209 s = 0 ∨ M 209 o = 0) → M 209 s = M 209 o → ¬ ((0 ≤ a2 ∧ 0 ≤ a5 ∧ a2 + a5 ≤ M 210 s) ∧ (0 ≤ a4 ∧ 0 ≤ a5 ∧ a4 + a5 ≤ M 210 o)) → r = -12) →
    (∀ s o : Nat, a1 = (s : Int) → a3 = (o : Int) → s < 4 → o < 4 → ¬ (M 209 s = 0 ∨ M 209 o = 0) → M 209 s = M 209 o → ¬ ((0 ≤ a2 ∧ 0 ≤ a5 ∧ a2 + a5 ≤ M 210 s) ∧ (0 ≤ a4 ∧ 0 ≤ a5 ∧ a4 + a5 ≤ M 210 o))) →
    wp_X12_copy 189 a1 a2 a3 a4 a5 M (fun r2 M2 => w32 r = w32 r2 ∧ Inv DK M2) := fun r q1 q2 q3 q4 q5 => X12_copy_ok hI h1 h2 h3 h4 h5 (fun _ _ _ => rfl) (fun z => ⟨by rw [q1 z], hI⟩) (fun s o x1 x2 x3 x4 x5 => ⟨by rw [q2 s o x1 x2 x3 x4 x5], hI⟩) (fun s o x1 x2 x3 x4 x5 x6 => ⟨by rw [q3 s o x1 x2 x3 x4 x5 x6], hI⟩) (fun s o x1 x2 x3 x4 x5 x6 x7 => ⟨by rw [q4 s o x1 x2 x3 x4 x5 x6 x7], hI⟩) (fun s o i j n x1 x2 x3 x4 x5 x6 x7 x8 x9 x10 x11 => absurd ⟨⟨by omega, by omega, by omega⟩, ⟨by omega, by omega, by omega⟩⟩ (q5 s o x1 x2 x6 x7 x8 x9))
  unfold wp_X11_copy wp_X11_isSheet
  rw [X11_within_iff, wl_0, wl_3, w32_R h1]
  refine dcf (fun e1 => ?_) (fun e1 => no _ (fun _ => rfl) (fun s o x1 x2 x3 x4 => by omega) (fun s o x1 x2 x3 x4 => by omega) (fun s o x1 x2 x3 x4 => by omega) (fun s o x1 x2 x3 x4 => by omega))
  rw [X11_within_iff, wl_0, wl_3, w32_R h3]
  refine dct (fun e2 => ?_) (fun e2 => no _ (fun _ => rfl) (fun s o x1 x2 x3 x4 => by omega) (fun s o x1 x2 x3 x4 => by omega) (fun s o x1 x2 x3 x4 => by omega) (fun s o x1 x2 x3 x4 => by omega))
  obtain ⟨s, rfl⟩ : ∃ s : Nat, a1 = (s : Int) := ⟨a1.toNat, by omega⟩
  obtain ⟨o, rfl⟩ : ∃ o : Nat, a3 = (o : Int) := ⟨a3.toNat, by omega⟩
  have hs : s < 4 := by omega
  have ho : o < 4 := by omega
  have so : ∀ s' o' : Nat, (s : Int) = (s' : Int) → (o : Int) = (o' : Int) → s' = s ∧ o' = o := fun s' o' x1 x2 => ⟨by omega, by omega⟩
  obtain ⟨w1, w2, w3, w4, w5, w6, w7, w8'⟩ := InvS_j hI hs
  obtain ⟨v1, v2, v3, v4, v5, v6, v7, v8'⟩ := InvS_j hI ho
  rw [rtv_0_17, ixn (show s < 2147483648 by omega), ixn (show o < 2147483648 by omega), rt_180 s hs, rt_180 o ho, rt_sheet s hs, rt_sheet o ho]
  refine ⟨inbn LN_180 hs, inbn LN_180 ho, ?_⟩
  rw [isMissing_iff w1 ⟨w2, w3⟩]
  refine dct (fun u1 => no _ (fun z => absurd ⟨e1, e2⟩ z) (fun _ _ _ _ _ _ _ => rfl) ?_ ?_ ?_) (fun u1 => ?_)
  · intro s' o' x1 x2 _ _ x3; obtain ⟨rfl, rfl⟩ := so s' o' x1 x2; exact absurd (Or.inl u1) x3
  · intro s' o' x1 x2 _ _ x3; obtain ⟨rfl, rfl⟩ := so s' o' x1 x2; exact absurd (Or.inl u1) x3
  · intro s' o' x1 x2 _ _ x3; obtain ⟨rfl, rfl⟩ := so s' o' x1 x2; exact absurd (Or.inl u1) x3
  rw [isMissing_iff v1 ⟨v2, v3⟩]
  refine dcf (fun u2 => no _ (fun z => absurd ⟨e1, e2⟩ z) (fun _ _ _ _ _ _ _ => rfl) ?_ ?_ ?_) (fun u2 => ?_)
  · intro s' o' x1 x2 _ _ x3; obtain ⟨rfl, rfl⟩ := so s' o' x1 x2; exact absurd (Or.inr u2) x3
  · intro s' o' x1 x2 _ _ x3; obtain ⟨rfl, rfl⟩ := so s' o' x1 x2; exact absurd (Or.inr u2) x3
  · intro s' o' x1 x2 _ _ x3; obtain ⟨rfl, rfl⟩ := so s' o' x1 x2; exact absurd (Or.inr u2) x3
  have u12 : ¬ (M 209 s = 0 ∨ M 209 o = 0) := by omega
  rw [w1, v1, w32_id (z := M 209 s - 1) (by omega) (by omega), w32_id (z := M 209 o - 1) (by omega) (by omega)]
  refine ⟨fun u3 => ?_, fun u3 => no _ (fun z => absurd ⟨e1, e2⟩ z) ?_ (fun _ _ _ _ _ _ _ _ => rfl) ?_ ?_⟩
  case refine_2 => intro s' o' x1 x2 _ _ x3; obtain ⟨rfl, rfl⟩ := so s' o' x1 x2; exact absurd x3 u12
  case refine_3 => intro s' o' x1 x2 _ _ x3 x4; obtain ⟨rfl, rfl⟩ := so s' o' x1 x2; omega
  case refine_4 => intro s' o' x1 x2 _ _ x3 x4; obtain ⟨rfl, rfl⟩ := so s' o' x1 x2; omega
  have u3' : M 209 s = M 209 o := by omega
  have no2 : ¬ ((0 ≤ a2 ∧ 0 ≤ a5 ∧ a2 + a5 ≤ M 210 s) ∧ (0 ≤ a4 ∧ 0 ≤ a5 ∧ a4 + a5 ≤ M 210 o)) → wp_X12_copy 189 (s : Int) a2 (o : Int) a4 a5 M (fun r2 M2 => w32 (-12) = w32 r2 ∧ Inv DK M2) := by
    intro z
    refine no _ (fun z => absurd ⟨e1, e2⟩ z) ?_ ?_ (fun _ _ _ _ _ _ _ _ _ => rfl) ?_
    · intro s' o' x1 x2 _ _ x3; obtain ⟨rfl, rfl⟩ := so s' o' x1 x2; exact absurd x3 u12
    · intro s' o' x1 x2 _ _ x3 x4; obtain ⟨rfl, rfl⟩ := so s' o' x1 x2; exact absurd u3' x4
    · intro s' o' x1 x2 _ _ x3 x4; obtain ⟨rfl, rfl⟩ := so s' o' x1 x2; exact z
  rw [hasItems_iff w4 ⟨w5, w6⟩ h2 h5]
  refine dcf (fun u4 => ?_) (fun u4 => no2 (fun z => u4 z.1))
  rw [hasItems_iff v4 ⟨v5, v6⟩ h4 h5]
  refine dct (fun u5 => ?_) (fun u5 => no2 (fun z => u5 z.2))
  obtain ⟨i, rfl⟩ : ∃ i : Nat, a2 = (i : Int) := ⟨a2.toNat, by omega⟩
  obtain ⟨j, rfl⟩ : ∃ j : Nat, a4 = (j : Int) := ⟨a4.toNat, by omega⟩
  obtain ⟨n, rfl⟩ : ∃ n : Nat, a5 = (n : Int) := ⟨a5.toNat, by omega⟩
  rw [w32n (show i < 2147483648 by omega), w32n (show j < 2147483648 by omega), w32n (show n < 2147483648 by omega), ixn (show i < 2147483648 by omega), ixn (show j < 2147483648 by omega), ixn (show n < 2147483648 by omega), ln_sheet s hs, ln_sheet o ho]
  refine ⟨by omega, ?_⟩
  rintro M109 rfl
  have ec : ∀ k c, k ≠ 182 + 2 * o → cpy M (182 + 2 * s) i (182 + 2 * o) j n k c = M k c := fun k c hk => by
    unfold cpy
    rw [if_neg (fun z => hk z.1)]
  refine X12_copy_ok hI h1 h2 h3 h4 h5 (fun k c hk => ec k c (by omega)) (fun z => absurd ⟨e1, e2⟩ z) ?_ ?_ ?_ ?_
  · intro s' o' x1 x2 _ _ x3; obtain ⟨rfl, rfl⟩ := so s' o' x1 x2; exact absurd x3 u12
  · intro s' o' x1 x2 _ _ x3 x4; obtain ⟨rfl, rfl⟩ := so s' o' x1 x2; exact absurd u3' x4
  · intro s' o' x1 x2 _ _ x3 x4 x5; obtain ⟨rfl, rfl⟩ := so s' o' x1 x2; exact absurd ⟨u4, u5⟩ x5
  · intro s' o' i' j' n' x1 x2 x3 x4 x5 _ _ _ _ q1 q2 M2 g1 g2
    obtain ⟨rfl, rfl⟩ := so s' o' x1 x2
    have : i' = i := by omega
    subst this
    have : j' = j := by omega
    subst this
    have : n' = n := by omega
    subst this
    have e2' : ∀ k c, k ≠ 182 + 2 * o' → k ≠ 211 → M2 k c = M k c := fun k c k1 k2 => by rw [g2 k c (by omega), ec k c k1]
    refine ⟨rfl, Inv_sheet1 hD hI ho ?_ ?_ ?_ ?_ ?_ (fun c hc => ?_) (fun k c k1 k2 k3 k4 k5 => ?_)⟩
    · rw [e2' _ _ (by omega) (by omega), e2' _ _ (by omega) (by omega)]; exact v1
    · rw [e2' _ _ (by omega) (by omega)]; exact ⟨v2, v3⟩
    · rw [e2' _ _ (by omega) (by omega), e2' _ _ (by omega) (by omega)]; exact v4
    · rw [e2' _ _ (by omega) (by omega)]; exact ⟨v5, v6⟩
    · rw [e2' _ _ (by omega) (by omega), e2' _ _ (by omega) (by omega)]; exact v7
    · rw [g2 (182 + 2 * o') c (by omega)]
      by_cases q : j' ≤ c ∧ c < j' + n'
      · have := g1 (c - j') (by omega)
        rw [show 40 * o' + j' + (c - j') = 40 * o' + c by omega] at this
        rw [this, ec 211 _ (by omega)]
        unfold cpy
        rw [if_pos ⟨rfl, q⟩]
        have := w8' (i' + (c - j')) (by omega)
        rw [show 40 * s' + (i' + (c - j')) = 40 * s' + i' + (c - j') by omega] at this
        exact this
      · rw [g2 211 _ (by omega), ec 211 _ (by omega)]
        unfold cpy
        rw [if_neg (fun z => q z.2)]
        exact v8' c hc
    · rw [g2 k c (by omega), ec k c k2]
