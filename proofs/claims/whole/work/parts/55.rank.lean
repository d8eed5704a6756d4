/-! rankings -/
def aheadS (t : F1) (al : Nat → Int) (k : Int) (b c : Nat) : Bool :=
  if k = 0 then decide (t (5 + b) < t (5 + c)) else if k = 1 then decide (0 < al b ∧ (al c = 0 ∨ t (5 + b) * al c < t (5 + c) * al b)) else if k = 2 then decide (t (20 + c) < t (20 + b)) else decide (t (10 + c) < t (10 + b))
def insR (lt : Nat → Bool) (x : Nat) : Nat → (Nat → Nat) → (Nat → Nat)
  | 0, o => fun c => if c = 0 then x else o c
  | i + 1, o => if lt (o i) then insR lt x i (fun c => if c = i + 1 then o i else o c) else fun c => if c = i + 1 then x else o c
def rankS (ah : Nat → Nat → Bool) : Nat → (Nat → Nat)
  | 0 => fun _ => 0
  | b + 1 => insR (ah b) b b (rankS ah b)
theorem insR_range {lt : Nat → Bool} {x : Nat} : ∀ (i : Nat) (o : Nat → Nat) (m : Nat), i ≤ m → (∀ c, c ≤ m → c ≠ i → o c < x) → ∀ c, c ≤ m → insR lt x i o c < x + 1
  | 0, o, m, _, h, c, hc => by
    unfold insR
    by_cases q : c = 0
    · rw [if_pos q]; omega
    · rw [if_neg q]
      have := h c hc q
      omega
  | i + 1, o, m, hi, h, c, hc => by
    unfold insR
    by_cases q : lt (o i) = true
    · rw [if_pos q]
      refine insR_range i _ m (by omega) (fun e he hne => ?_) c hc
      by_cases q2 : e = i + 1
      · rw [if_pos q2]; exact h i (by omega) (by omega)
      · rw [if_neg q2]; exact h e he q2
    · rw [if_neg q]
      by_cases q2 : c = i + 1
      · rw [if_pos q2]; omega
      · rw [if_neg q2]
        have := h c hc q2
        omega
theorem rankS_range (ah : Nat → Nat → Bool) : ∀ n c, c < n → rankS ah n c < n
  | 0, _, h => absurd h (Nat.not_lt_zero _)
  | b + 1, c, h => by
    unfold rankS
    exact insR_range b _ b (Nat.le_refl _) (fun e he hne => rankS_range ah b e (by omega)) c (by omega)
theorem insR_congr {lt : Nat → Bool} {x : Nat} : ∀ (i : Nat) (o o' : Nat → Nat) (m : Nat), i ≤ m → (∀ c, c ≤ m → c ≠ i → o' c = o c) → ∀ c, c ≤ m → insR lt x i o' c = insR lt x i o c
  | 0, o, o', m, _, h, c, hc => by
    unfold insR
    by_cases q : c = 0
    · rw [if_pos q, if_pos q]
    · rw [if_neg q, if_neg q, h c hc q]
  | i + 1, o, o', m, hi, h, c, hc => by
    unfold insR
    rw [h i (by omega) (by omega)]
    by_cases q : lt (o i) = true
    · rw [if_pos q, if_pos q]
      refine insR_congr i _ _ m (by omega) (fun e he hne => ?_) c hc
      by_cases q2 : e = i + 1
      · rw [if_pos q2, if_pos q2]
      · rw [if_neg q2, if_neg q2, h e he q2]
    · rw [if_neg q, if_neg q]
      by_cases q2 : c = i + 1
      · rw [if_pos q2, if_pos q2]
      · rw [if_neg q2, if_neg q2, h c hc q2]
theorem intCompare_ok {a c : Int} (ha : R32 a) (hc : R32 c) {M : Mem} {Q : Int → Prop} (h : ∀ r, R32 r → (r < 0 ↔ a < c) → Q r) : wp_J6_compare_7cf53 a c M Q := by
  unfold wp_J6_compare_7cf53
  rw [w32_R ha, w32_R hc]
  refine ⟨fun u => ⟨fun u2 => h 1 (R32_i (by decide) (by decide)) ⟨fun z => absurd z (by decide), fun z => by omega⟩, fun u2 => h 0 (R32_i (by decide) (by decide)) ⟨fun z => absurd z (by decide), fun z => by omega⟩⟩, fun u => h (-1) (R32_i (by decide) (by decide)) ⟨fun _ => by omega, fun _ => by decide⟩⟩
/-- what is told of bonds, by both -/
def BondR (M : Mem) (t al : F1) (n : Nat) : Prop := ∀ b, b < n → (1 ≤ t (5 + b) ∧ t (5 + b) ≤ 99) ∧ (0 ≤ t (10 + b) ∧ t (10 + b) ≤ 9) ∧ (1 ≤ t (20 + b) ∧ t (20 + b) ≤ 60) ∧ (0 ≤ al b ∧ al b ≤ 90000)
theorem mul_small {a c : Int} (h1 : 0 ≤ a ∧ a ≤ 99) (h2 : 0 ≤ c ∧ c ≤ 90000) : R32 (a * c) := by
  have x := Int.mul_nonneg h1.1 h2.1
  have y := Int.mul_le_mul h1.2 h2.2 h2.1 (by decide)
  exact ⟨by omega, by omega⟩
theorem compare_ok {M : Mem} {t al : F1} {n : Nat} (hn : n ≤ 5) (hr : BondR M t al n) (hc : ∀ b, b < n → M (9 + b) 1 = t (5 + b) ∧ M (9 + b) 2 = t (10 + b) ∧ M (9 + b) 4 = t (20 + b) ∧ M 46 b = al b) {k : Int} (hk : 0 ≤ k ∧ k ≤ 3) {b c : Nat} (hb : b < n) (hcn : c < n) {Q : Int → Prop} (h : ∀ r, R32 r → (r < 0 ↔ aheadS t al k b c = true) → Q r) : wp_X5_compare k (b : Int) (c : Int) 1 27 M Q := by
  obtain ⟨b1, b2, b3, b4⟩ := hr b hb
  obtain ⟨c1, c2, c3, c4⟩ := hr c hcn
  obtain ⟨x1, x2, x3, x4⟩ := hc b hb
  obtain ⟨y1, y2, y3, y4⟩ := hc c hcn
  have m1 := mul_small (a := t (5 + b)) (c := al c) (by omega) c4
  have m2 := mul_small (a := t (5 + c)) (c := al b) (by omega) b4
  unfold aheadS at h
  unfold wp_X5_compare
  rw [rtv_1_3, rtv_27_9, ixn (show b < 2147483648 by omega), ixn (show c < 2147483648 by omega), rt_8 b (by omega), rt_8 c (by omega), x1, x2, x3, x4, y1, y2, y3, y4, w32_id (z := k) (by omega) (by omega)]
  refine ⟨inbn LN_8 (by omega), inbn LN_8 (by omega), fun u => ?_, fun u => ⟨inbn LN_46 (by omega), inbn LN_46 (by omega), ?_⟩, fun u => ?_, fun u => ?_⟩
  · rw [if_pos u] at h
    exact intCompare_ok ⟨by omega, by omega⟩ ⟨by omega, by omega⟩ (fun r h1 h2 => h r h1 ⟨fun z => decide_eq_true (h2.mp z), fun z => h2.mpr (of_decide_eq_true z)⟩)
  · rw [if_neg (by omega), if_pos u] at h
    unfold wp_X5_compareRich wp_X5_compareRich_b8 wp_X5_compareRich_b17 wp_X5_compareRich_b26
    generalize hA : al b = A at *
    generalize hC : al c = C at *
    rw [w32_id (z := A) (by omega) (by omega), w32_id (z := C) (by omega) (by omega)]
    have cb : ∀ s0 s1 : Bool, (0 < A ↔ s0 = false) → (C = 0 ↔ s1 = true) → (A = 0 ∨ C = 0) → wp_J6_compare_7cf53 (bz s0) (bz s1) M (fun r => Q r) := by
      intro s0 s1 q1 q2 q3
      refine intCompare_ok (by cases s0 <;> exact R32_i (by decide) (by decide)) (by cases s1 <;> exact R32_i (by decide) (by decide)) (fun r h1 h2 => h r h1 ⟨fun z => decide_eq_true ?_, fun z => h2.mpr ?_⟩)
      · have := h2.mp z
        cases s0 <;> cases s1
        · exact absurd this (by decide)
        · exact ⟨q1.mpr rfl, Or.inl (q2.mpr rfl)⟩
        · exact absurd this (by decide)
        · exact absurd this (by decide)
      · obtain ⟨z1, z2⟩ := of_decide_eq_true z
        have e0 := q1.mp z1
        have e1 : s1 = true := q2.mp (by omega)
        rw [e0, e1]
        decide
    refine ⟨fun v => ⟨fun v2 => absurd v v2, fun v2 => ⟨fun v3 => cb true false ?_ ?_ ?_, fun v3 => cb true true ?_ ?_ ?_⟩⟩, fun v => ⟨fun v2 => ?_, fun v2 => ⟨fun v3 => ⟨fun v4 => absurd v2 (by omega), fun v4 => cb false true ?_ ?_ ?_⟩, fun v3 => absurd v (by omega)⟩⟩⟩
    · exact ⟨fun _ => by omega, fun z => by cases z⟩
    · exact ⟨fun _ => by omega, fun z => by cases z⟩
    · omega
    · exact ⟨fun _ => by omega, fun z => by cases z⟩
    · exact ⟨fun _ => rfl, fun _ => by omega⟩
    · omega
    · exact intCompare_ok m1 m2 (fun r h1 h2 => h r h1 ⟨fun z => decide_eq_true ⟨by omega, Or.inr (h2.mp z)⟩, fun z => h2.mpr (by
        obtain ⟨z1, z2⟩ := of_decide_eq_true z
        rcases z2 with z2 | z2
        · omega
        · exact z2)⟩)
    · exact ⟨fun _ => rfl, fun _ => by omega⟩
    · exact ⟨fun _ => rfl, fun _ => by omega⟩
    · omega
  · rw [if_neg (by omega), if_neg (by omega), if_pos u] at h
    exact intCompare_ok ⟨by omega, by omega⟩ ⟨by omega, by omega⟩ (fun r h1 h2 => h r h1 ⟨fun z => decide_eq_true (h2.mp z), fun z => h2.mpr (of_decide_eq_true z)⟩)
  · rw [if_neg (by omega), if_neg (by omega), if_neg (by omega)] at h
    exact intCompare_ok ⟨by omega, by omega⟩ ⟨by omega, by omega⟩ (fun r h1 h2 => h r h1 ⟨fun z => decide_eq_true (h2.mp z), fun z => h2.mpr (of_decide_eq_true z)⟩)
theorem isAhead_ok {M : Mem} {t al : F1} {n : Nat} (hn : n ≤ 5) (hr : BondR M t al n) (ht : M 193 = t) (hal : ∀ b, b < n → ∀ P : Int → Prop, P (al b) → wp_X12_allOf 189 (b : Int) M P) {k : Int} (hk : 0 ≤ k ∧ k ≤ 3) {b c : Nat} (hb : b < n) (hcn : c < n) {Q : Bool → Prop} (h : Q (aheadS t al k b c)) : wp_X12_isAhead 189 k (b : Int) (c : Int) M Q := by
  obtain ⟨b1, b2, b3, b4⟩ := hr b hb
  obtain ⟨c1, c2, c3, c4⟩ := hr c hcn
  have m1 := mul_small (a := t (5 + b)) (c := al c) (by omega) c4
  have m2 := mul_small (a := t (5 + c)) (c := al b) (by omega) b4
  have hb5 : b < 5 := by omega
  have hc5 : c < 5 := by omega
  have o : ∀ (x w : Nat), x < 5 → w < 7 → ∀ (y : Int), y = (w : Int) → ∀ P : Int → Prop, P (t (5 * w + x)) → wp_X12_of 189 (x : Int) y M P := fun x w hx hw y hy P hP => of_ok hy hx hw (by rw [ht]; exact hP)
  unfold aheadS at h
  unfold wp_X12_isAhead
  rw [w32_id (z := k) (by omega) (by omega)]
  refine ⟨fun u => o b 1 hb5 (by decide) 1 rfl _ (o c 1 hc5 (by decide) 1 rfl _ ?_), fun u => hal b hb _ ?_, fun u => o b 4 hb5 (by decide) 4 rfl _ (o c 4 hc5 (by decide) 4 rfl _ ?_), fun u => o b 2 hb5 (by decide) 2 rfl _ (o c 2 hc5 (by decide) 2 rfl _ ?_)⟩
  · rw [show 5 * 1 + b = 5 + b by omega, show 5 * 1 + c = 5 + c by omega, w32_id (z := t (5 + b)) (by omega) (by omega), w32_id (z := t (5 + c)) (by omega) (by omega)]
    rw [if_pos u] at h
    refine ⟨fun v => ?_, fun v => ?_⟩
    · rw [decide_eq_false (by omega)] at h; exact h
    · rw [decide_eq_true (by omega)] at h; exact h
  · rw [if_neg (by omega), if_pos u] at h
    have hal_b := hal b hb
    have hal_c := hal c hcn
    generalize hA : al b = A at *
    generalize hC : al c = C at *
    rw [w32_id (z := A) (by omega) (by omega)]
    refine ⟨fun v => ?_, fun v => hal_c _ ?_⟩
    · rw [decide_eq_false (by omega)] at h; exact h
    rw [w32_id (z := C) (by omega) (by omega)]
    refine ⟨fun v2 => ?_, fun v2 => o b 1 hb5 (by decide) 1 rfl _ (hal_c _ (o c 1 hc5 (by decide) 1 rfl _ (hal_b _ ?_)))⟩
    · rw [decide_eq_true ⟨by omega, Or.inl v2⟩] at h; exact h
    rw [show 5 * 1 + b = 5 + b by omega, show 5 * 1 + c = 5 + c by omega, w32_R m1, w32_R m2]
    refine ⟨fun v3 => ?_, fun v3 => ?_⟩
    · rw [decide_eq_false (by omega)] at h; exact h
    · rw [decide_eq_true ⟨by omega, Or.inr (by omega)⟩] at h; exact h
  · rw [show 5 * 4 + b = 20 + b by omega, show 5 * 4 + c = 20 + c by omega, w32_id (z := t (20 + b)) (by omega) (by omega), w32_id (z := t (20 + c)) (by omega) (by omega)]
    rw [if_neg (by omega), if_neg (by omega), if_pos u] at h
    refine ⟨fun v => ?_, fun v => ?_⟩
    · rw [decide_eq_false (by omega)] at h; exact h
    · rw [decide_eq_true (by omega)] at h; exact h
  · rw [show 5 * 2 + b = 10 + b by omega, show 5 * 2 + c = 10 + c by omega, w32_id (z := t (10 + b)) (by omega) (by omega), w32_id (z := t (10 + c)) (by omega) (by omega)]
    rw [if_neg (by omega), if_neg (by omega), if_neg (by omega)] at h
    refine ⟨fun v => ?_, fun v => ?_⟩
    · rw [decide_eq_false (by omega)] at h; exact h
    · rw [decide_eq_true (by omega)] at h; exact h
theorem rtv_174_o : rt 174 0 = 175 := by decide +kernel
theorem rtv_174_b : rt 174 1 = 176 := by decide +kernel
theorem rank_ok {M : Mem} {ah : Nat → Nat → Bool} {n : Nat} (hn : n ≤ 5) (h4 : M 1 4 = (n : Int)) {k : Int} (hcmp : ∀ M' : Mem, (∀ a c, a ≠ 175 → M' a c = M a c) → ∀ b c, b < n → c < n → ∀ P : Int → Prop, (∀ r, R32 r → (r < 0 ↔ ah b c = true) → P r) → wp_X5_compare k (b : Int) (c : Int) 1 27 M' P) {Q : Mem → Prop} (h : ∀ M' : Mem, (∀ c, c < n → M' 175 c = (rankS ah n c : Int)) → (∀ a c, a ≠ 175 → M' a c = M a c) → Q M') : wp_X5_rank 174 k 1 27 M Q := by
  refine ⟨fun M' x4 => ∃ b : Nat, x4 = (b : Int) ∧ b ≤ n ∧ (∀ c, c < b → M' 175 c = (rankS ah b c : Int)) ∧ (∀ a c, a ≠ 175 → M' a c = M a c), fun _ x4 => ((n : Int) - x4).toNat, ⟨0, rfl, Nat.zero_le _, fun c hc => by omega, fun _ _ _ => rfl⟩, ?_⟩
  rintro M1 x4 ⟨b, rfl, hb, f1, f2⟩
  unfold wp_X5_rank_B3
  dsimp only
  rw [f2 1 4 (by decide), h4, w32n (show n < 2147483648 by omega), w32n (show b < 2147483648 by omega)]
  refine ⟨fun u => ?_, fun u => ?_⟩
  · have : b = n := by omega
    subst this
    exact h M1 f1 f2
  have hbn : b < n := by omega
  refine ⟨fun M' x5 => ∃ (i : Nat) (cur : Nat → Nat), x5 = (i : Int) ∧ i ≤ b ∧ (∀ c, c ≤ b → c ≠ i → M' 175 c = (cur c : Int) ∧ cur c < b) ∧ (∀ c, c ≤ b → insR (ah b) b i cur c = rankS ah (b + 1) c) ∧ (∀ a c, a ≠ 175 → M' a c = M a c), fun _ x5 => x5.toNat, ⟨b, rankS ah b, rfl, Nat.le_refl _, fun c hc hne => ⟨f1 c (by omega), rankS_range ah b c (by omega)⟩, fun c hc => rfl, f2⟩, ?_⟩
  rintro M2 x5 ⟨i, cur, rfl, hi, g1, g2, g3⟩
  unfold wp_X5_rank_B16
  dsimp only
  have fin : (∀ c, c ≤ b → insR (ah b) b i cur c = if c = i then b else cur c) → wp_X5_rank_b63 174 1 27 Q (fun M' x4' => (∃ b : Nat, x4' = (b : Int) ∧ b ≤ n ∧ (∀ c, c < b → M' 175 c = (rankS ah b c : Int)) ∧ (∀ a c, a ≠ 175 → M' a c = M a c)) ∧ ((n : Int) - x4').toNat < ((n : Int) - (b : Int)).toNat) M2 k (b : Int) (i : Int) := by
    intro hz
    unfold wp_X5_rank_b63
    rw [rtv_174_o, ixn (show i < 2147483648 by omega)]
    refine ⟨inbn LN_175 (by omega), ?_⟩
    rintro M71 rfl
    refine ⟨⟨b + 1, by omega, by omega, fun c hc => ?_, fun a c ha => ?_⟩, by omega⟩
    · rw [← g2 c (by omega), hz c (by omega)]
      by_cases q : c = i
      · subst q; rw [st2_s, if_pos rfl]
      · rw [st2_n _ _ (by omega), if_neg q]; exact (g1 c (by omega) q).1
    · rw [st2_off _ _ ha]; exact g3 a c ha
  rw [w32n (show i < 2147483648 by omega)]
  refine ⟨fun u2 => ?_, fun u2 => ?_⟩
  · have : i = 0 := by omega
    subst this
    exact fin (fun c hc => rfl)
  obtain ⟨p, rfl⟩ : ∃ p, i = p + 1 := ⟨i - 1, by omega⟩
  obtain ⟨q1, q2⟩ := g1 p (by omega) (by omega)
  rw [show ((p + 1 : Nat) : Int) - 1 = (p : Int) by omega, rtv_174_o, ixn (show p < 2147483648 by omega), ixn (show p + 1 < 2147483648 by omega), q1]
  refine ⟨inbn LN_175 (by omega), hcmp M2 g3 b (cur p) hbn (by omega) _ (fun r hr hlt => ?_)⟩
  rw [w32_R hr]
  refine ⟨fun u3 => fin (fun c hc => ?_), fun u3 => ⟨inbn LN_175 (by omega), inbn LN_175 (by omega), ?_⟩⟩
  · have : ah b (cur p) = false := by
      cases z : ah b (cur p)
      · rfl
      · have := hlt.mpr z; omega
    unfold insR
    rw [this]
    rfl
  · have yes : ah b (cur p) = true := hlt.mp (by omega)
    rintro M56 rfl
    refine ⟨⟨p, fun c => if c = p + 1 then cur p else cur c, by omega, by omega, fun c hc hne => ?_, fun c hc => ?_, fun a c ha => ?_⟩, by omega⟩
    · dsimp only
      by_cases q : c = p + 1
      · subst q; rw [st2_s, if_pos rfl]; exact ⟨rfl, q2⟩
      · rw [st2_n _ _ (by omega), if_neg q]; exact g1 c hc q
    · rw [← g2 c hc]
      show _ = (if ah b (cur p) = true then insR (ah b) b p (fun c => if c = p + 1 then cur p else cur c) else fun c => if c = p + 1 then b else cur c) c
      rw [if_pos yes]
    · rw [st2_off _ _ ha]; exact g3 a c ha
theorem ranks_ok {M : Mem} {ah : Nat → Nat → Bool} {n : Nat} (hn : n ≤ 5) (h3 : M 189 3 = (n : Int)) {k : Int} (hcmp : ∀ M' : Mem, (∀ a c, a ≠ 205 → M' a c = M a c) → ∀ b c, b < n → c < n → ∀ P : Bool → Prop, P (ah b c) → wp_X12_isAhead 189 k (b : Int) (c : Int) M' P) {Q : Mem → Prop} (h : ∀ M' : Mem, (∀ c, c < n → M' 205 c = (rankS ah n c : Int)) → (∀ a c, a ≠ 205 → M' a c = M a c) → Q M') : wp_X12_ranks 189 k M Q := by
  refine ⟨fun M' x2 => ∃ b : Nat, x2 = (b : Int) ∧ b ≤ n ∧ (∀ c, c < b → M' 205 c = (rankS ah b c : Int)) ∧ (∀ a c, a ≠ 205 → M' a c = M a c), fun _ x2 => ((n : Int) - x2).toNat, ⟨0, rfl, Nat.zero_le _, fun c hc => by omega, fun _ _ _ => rfl⟩, ?_⟩
  rintro M1 x2 ⟨b, rfl, hb, f1, f2⟩
  unfold wp_X12_ranks_B2
  dsimp only
  rw [f2 189 3 (by decide), h3, w32n (show n < 2147483648 by omega), w32n (show b < 2147483648 by omega)]
  refine ⟨fun u => ?_, fun u => ?_⟩
  · have : b = n := by omega
    subst this
    exact h M1 f1 f2
  have hbn : b < n := by omega
  refine ⟨fun M' x3 => ∃ (i : Nat) (cur : Nat → Nat), x3 = (i : Int) ∧ i ≤ b ∧ (∀ c, c ≤ b → c ≠ i → M' 205 c = (cur c : Int) ∧ cur c < b) ∧ (∀ c, c ≤ b → insR (ah b) b i cur c = rankS ah (b + 1) c) ∧ (∀ a c, a ≠ 205 → M' a c = M a c), fun _ x3 => x3.toNat, ⟨b, rankS ah b, rfl, Nat.le_refl _, fun c hc hne => ⟨f1 c (by omega), rankS_range ah b c (by omega)⟩, fun c hc => rfl, f2⟩, ?_⟩
  rintro M2 x3 ⟨i, cur, rfl, hi, g1, g2, g3⟩
  unfold wp_X12_ranks_B12
  dsimp only
  have fin : (∀ c, c ≤ b → insR (ah b) b i cur c = if c = i then b else cur c) → wp_X12_ranks_b53 189 Q (fun M' x2' => (∃ b : Nat, x2' = (b : Int) ∧ b ≤ n ∧ (∀ c, c < b → M' 205 c = (rankS ah b c : Int)) ∧ (∀ a c, a ≠ 205 → M' a c = M a c)) ∧ ((n : Int) - x2').toNat < ((n : Int) - (b : Int)).toNat) M2 k (b : Int) (i : Int) := by
    intro hz
    unfold wp_X12_ranks_b53
    rw [rtv_189_22, ixn (show i < 2147483648 by omega)]
    refine ⟨inbn LN_205 (by omega), ?_⟩
    rintro M59 rfl
    refine ⟨⟨b + 1, by omega, by omega, fun c hc => ?_, fun a c ha => ?_⟩, by omega⟩
    · rw [← g2 c (by omega), hz c (by omega)]
      by_cases q : c = i
      · subst q; rw [st2_s, if_pos rfl]
      · rw [st2_n _ _ (by omega), if_neg q]; exact (g1 c (by omega) q).1
    · rw [st2_off _ _ ha]; exact g3 a c ha
  rw [w32n (show i < 2147483648 by omega)]
  refine ⟨fun u2 => ?_, fun u2 => ?_⟩
  · have : i = 0 := by omega
    subst this
    exact fin (fun c hc => rfl)
  obtain ⟨p, rfl⟩ : ∃ p, i = p + 1 := ⟨i - 1, by omega⟩
  obtain ⟨q1, q2⟩ := g1 p (by omega) (by omega)
  rw [show ((p + 1 : Nat) : Int) - 1 = (p : Int) by omega, rtv_189_22, ixn (show p < 2147483648 by omega), ixn (show p + 1 < 2147483648 by omega), q1]
  refine ⟨inbn LN_205 (by omega), hcmp M2 g3 b (cur p) hbn (by omega) _ ⟨fun z => fin (fun c hc => ?_), fun yes => ⟨inbn LN_205 (by omega), inbn LN_205 (by omega), ?_⟩⟩⟩
  · unfold insR
    rw [z]
    rfl
  · rintro M46 rfl
    refine ⟨⟨p, fun c => if c = p + 1 then cur p else cur c, by omega, by omega, fun c hc hne => ?_, fun c hc => ?_, fun a c ha => ?_⟩, by omega⟩
    · dsimp only
      by_cases q : c = p + 1
      · subst q; rw [st2_s, if_pos rfl]; exact ⟨rfl, q2⟩
      · rw [st2_n _ _ (by omega), if_neg q]; exact g1 c hc q
    · rw [← g2 c hc]
      show _ = (if ah b (cur p) = true then insR (ah b) b p (fun c => if c = p + 1 then cur p else cur c) else fun c => if c = p + 1 then b else cur c) c
      rw [if_pos yes]
    · rw [st2_off _ _ ha]; exact g3 a c ha
