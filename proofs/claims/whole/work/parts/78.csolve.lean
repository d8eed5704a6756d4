/-! the class's exchanges to their end -/
def NumQ (n : Nat) (on : Nat → Bool) (D : QD) : Prop :=
  (∀ k, k < 9 → on k = true → D.num k < 24) ∧ (∀ k k', k < 9 → k' < 9 → on k = true → on k' = true → D.num k = D.num k' → k = k') ∧ (∀ j, j < n → D.so j < 24) ∧ (∀ j j', j < n → j' < n → D.so j = D.so j' → j = j')
theorem GoodQ_num {n : Nat} {on : Nat → Bool} {D : QD} (g : GoodQ n on D) : NumQ n on D := by
  obtain ⟨-, R, g, a⟩ := g
  refine ⟨fun k hk o => ?_, fun k k' hk hk' o o' e => ?_, fun j hj => ?_, fun j j' hj hj' e => ?_⟩
  · rw [← (a.1 k (by omega) o).1]
    exact isV_lt (g.nv k hk o)
  · refine g.ni k k' hk hk' o o' ?_
    rw [(a.1 k (by omega) o).1, (a.1 k' (by omega) o').1]
    exact e
  · rw [← a.2 j hj]
    exact isV_lt (g.sv j hj)
  · refine g.si j j' hj hj' ?_
    rw [a.2 j hj, a.2 j' hj']
    exact e
theorem lv_none_of {n H : Nat} {on : Nat → Bool} {key : Nat → Nat} (K : KeyOK n H on key) {D : QD} (h : ∀ i, i < H → below0 (D.B (key i)) = false) : lvS on D = none := by
  cases q : lvS on D with
  | none => rfl
  | some l =>
    obtain ⟨a1, a2, a3, -⟩ := lvUp_some 9 l q
    obtain ⟨r, hr, rfl⟩ := K.2.2.2.2.1 l a1 a2
    rw [h r hr] at a3
    cases a3
theorem lv_some_of {n H : Nat} {on : Nat → Bool} {key : Nat → Nat} (K : KeyOK n H on key) {D : QD} (N : NumQ n on D) {p : Nat} (hp : p < H) (hb : below0 (D.B (key p)) = true) (h : ∀ i, i < H → below0 (D.B (key i)) = true → D.num (key p) ≤ D.num (key i)) : lvS on D = some (key p) := by
  obtain ⟨kp, op⟩ := K.2.2.1 p hp
  cases q : lvS on D with
  | none =>
    rw [lvUp_none 9 q (key p) kp op] at hb
    cases hb
  | some l =>
    obtain ⟨a1, a2, a3, a4⟩ := lvUp_some 9 l q
    obtain ⟨r, hr, rfl⟩ := K.2.2.2.2.1 l a1 a2
    have c1 := a4 (key p) kp op hb
    have c2 := h r hr a3
    rw [N.2.1 (key r) (key p) a1 kp a2 op (by omega)]
theorem FR_val {M : Mem} {a : Nat} {q : Q2} (h : FR M a q) (hn : q ≠ none) (hF : FrO q) : ∃ x, q = some x ∧ M a 0 = x.1 ∧ M a 1 = x.2 ∧ w64 (M a 0) = x.1 ∧ Fr x := by
  cases q with
  | none => exact absurd rfl hn
  | some x => exact ⟨x, rfl, h.2.1, h.2.2, by rw [h.2.1, w64_in (Fr_in (hF x rfl)).1], hF x rfl⟩
theorem findLeaving_ok {n H : Nat} {on : Nat → Bool} {key : Nat → Nat} (K : KeyOK n H on key) {D : QD} (w : WFQ n on D) (N : NumQ n on D) (ok : okQ n on D) {M : Mem} (hM : DicC n H key M D) {Q : Int → Prop} (h : ∀ r : Int, ((r = -1 ∧ lvS on D = none) ∨ ∃ p : Nat, r = (p : Int) ∧ p < H ∧ lvS on D = some (key p)) → Q r) : wp_X3_findLeaving 87 M Q := by
  obtain ⟨k1, k2, k3, k4, k5, k6⟩ := id K
  obtain ⟨m1, m2, m3, m4, m5⟩ := hM
  have av : ∀ i, i < H → (w64 (M (102 + 8 * i + 1) 0) < 0 ↔ below0 (D.B (key i)) = true) := fun i hi => by
    obtain ⟨c1, c2⟩ := k3 i hi
    obtain ⟨x, x1, -, -, x2, -⟩ := FR_val (m3 i hi).2.1 (ok _ (by omega) c2).1 (w _ (by omega) c2).1
    rw [x2, x1]
    exact decide_eq_true_iff.symm
  have nm : ∀ i, i < H → w32 (M (102 + 8 * i) 0) = (D.num (key i) : Int) := fun i hi => by
    rw [(m3 i hi).1, w32n]
    have := N.1 _ (k3 i hi).1 (k3 i hi).2
    omega
  unfold wp_X3_findLeaving
  refine ⟨fun x1 x2 => ∃ k : Nat, x2 = (k : Int) ∧ k ≤ H ∧ ((x1 = -1 ∧ ∀ i, i < k → below0 (D.B (key i)) = false) ∨ ∃ p : Nat, x1 = (p : Int) ∧ p < k ∧ below0 (D.B (key p)) = true ∧ ∀ i, i < k → below0 (D.B (key i)) = true → D.num (key p) ≤ D.num (key i)), fun _ x2 => ((H : Int) - x2).toNat, ⟨0, rfl, Nat.zero_le _, Or.inl ⟨rfl, fun _ q => absurd q (Nat.not_lt_zero _)⟩⟩, ?_⟩
  rintro x1 x2 ⟨k, rfl, hk, f⟩
  unfold wp_X3_findLeaving_B4 wp_X3_findLeaving_b55 wp_X3_findLeaving_b57
  dsimp only
  rw [m2, w32n (show k < 2147483648 by omega), w32n (show H < 2147483648 by omega), ixn (show k < 2147483648 by omega), rt_87.2.1]
  refine ⟨fun u => ?_, fun u => ?_⟩
  · have : k = H := by clear f; omega
    subst this
    rcases f with ⟨rfl, f⟩ | ⟨p, rfl, p1, p2, p3⟩
    · exact h _ (Or.inl ⟨rfl, lv_none_of K f⟩)
    · exact h _ (Or.inr ⟨p, rfl, p1, lv_some_of K N p1 p2 p3⟩)
  have kH : k < H := by clear f; omega
  have a := av k kH
  have μk : ((H : Int) - ((k : Int) + 1)).toNat < ((H : Int) - (k : Int)).toNat := by clear f; omega
  rw [rt_96 k (by clear f; omega), (IsRw_p (show k < 9 by clear f; omega)).1, vl_0]
  refine ⟨inbn LN_96 (by clear f; omega), fun v => ⟨⟨k + 1, rfl, kH, ?_⟩, μk⟩, fun v => ?_⟩
  · have nb : below0 (D.B (key k)) = false := Bool.eq_false_iff.mpr (fun z => by have := a.mpr z; clear f; omega)
    rcases f with ⟨rfl, f⟩ | ⟨p, rfl, p1, p2, p3⟩
    · refine Or.inl ⟨rfl, fun i hi => ?_⟩
      rcases Nat.lt_or_ge i k with z | z
      · exact f i z
      · rw [show i = k by omega]; exact nb
    · refine Or.inr ⟨p, rfl, by omega, p2, fun i hi b => ?_⟩
      rcases Nat.lt_or_ge i k with z | z
      · exact p3 i z b
      · rw [show i = k by omega, nb] at b
        cases b
  · have yb : below0 (D.B (key k)) = true := a.mp (by clear f; omega)
    rcases f with ⟨rfl, f⟩ | ⟨p, rfl, p1, p2, p3⟩
    · refine ⟨fun _ => ⟨⟨k + 1, rfl, kH, Or.inr ⟨k, rfl, by omega, yb, fun i hi b => ?_⟩⟩, μk⟩, fun z => absurd rfl z⟩
      rcases Nat.lt_or_ge i k with z | z
      · rw [f i z] at b
        cases b
      · rw [show i = k by omega]; exact Nat.le_refl _
    · refine ⟨fun z => ?_, fun _ => ⟨inbn LN_96 (by omega), inbn LN_96 (by omega), ?_⟩⟩
      · rw [wm_1, w32n (by omega)] at z
        omega
      rw [ixn (show p < 2147483648 by omega), rt_96 p (by omega), nm p (by omega), nm k kH]
      refine ⟨fun z => ⟨⟨k + 1, rfl, kH, Or.inr ⟨p, rfl, by omega, p2, fun i hi b => ?_⟩⟩, μk⟩, fun z => ⟨⟨k + 1, rfl, kH, Or.inr ⟨k, rfl, by omega, yb, fun i hi b => ?_⟩⟩, μk⟩⟩
      · rcases Nat.lt_or_ge i k with y | y
        · exact p3 i y b
        · rw [show i = k by omega]; omega
      · rcases Nat.lt_or_ge i k with y | y
        · have := p3 i y b
          omega
        · rw [show i = k by omega]; exact Nat.le_refl _
theorem okQ_rows {n H : Nat} {on : Nat → Bool} {key : Nat → Nat} (K : KeyOK n H on key) {D : QD} : okQ n on D ↔ ((D.B 9 ≠ none ∧ ∀ j, j < n → D.S 9 j ≠ none) ∧ ∀ i, i < H → (D.B (key i) ≠ none ∧ ∀ j, j < n → D.S (key i) j ≠ none)) := by
  constructor
  · intro h
    refine ⟨h 9 (by decide) K.2.2.2.2.2, fun i hi => h _ ?_ (K.2.2.1 i hi).2⟩
    have := (K.2.2.1 i hi).1
    omega
  · rintro ⟨h1, h2⟩ k hk o
    rcases Nat.lt_or_ge k 9 with q | q
    · obtain ⟨r, hr, rfl⟩ := K.2.2.2.2.1 k q o
      exact h2 r hr
    · rw [show k = 9 by omega]
      exact h1
/-- shares beyond the last are whole -/
def TailQ (n : Nat) (on : Nat → Bool) (D : QD) : Prop := ∀ k, k < 10 → on k = true → ∀ j, n ≤ j → j < 5 → D.S k j ≠ none
theorem exch_Tail {n : Nat} {on : Nat → Bool} {D : QD} (t : TailQ n on D) (l e : Nat) : TailQ n on (exchQ n D l e) := fun k hk o j h1 h2 => by
  rw [exq_S, if_pos h1]
  exact t k hk o j h1 h2
theorem rowGreat_iff {n : Nat} {b : Q2} {s : Nat → Q2} (hn : n ≤ 5) (t : ∀ j, n ≤ j → j < 5 → s j ≠ none) : rowGreat b s = false ↔ (b ≠ none ∧ ∀ j, j < n → s j ≠ none) := by
  unfold rowGreat
  rw [Bool.eq_false_iff, Ne, greatUp_iff 5, Option.isNone_iff_eq_none]
  constructor
  · exact fun h => ⟨fun z => h (Or.inl z), fun j hj z => h (Or.inr ⟨j, by omega, z⟩)⟩
  · rintro ⟨h1, h2⟩ (z | ⟨j, hj, z⟩)
    · exact h1 z
    · rcases Nat.lt_or_ge j n with q | q
      · exact h2 j q z
      · exact t j q hj z
def dgUp (key : Nat → Nat) (D : QD) : Nat → Bool
  | 0 => rowGreat (D.B 9) (D.S 9)
  | i + 1 => dgUp key D i || rowGreat (D.B (key i)) (D.S (key i))
theorem dgUp_iff {key : Nat → Nat} {D : QD} : ∀ m, dgUp key D m = false ↔ (rowGreat (D.B 9) (D.S 9) = false ∧ ∀ i, i < m → rowGreat (D.B (key i)) (D.S (key i)) = false)
  | 0 => ⟨fun h => ⟨h, fun _ q => absurd q (Nat.not_lt_zero _)⟩, fun h => h.1⟩
  | m + 1 => by
    unfold dgUp
    rw [Bool.or_eq_false_iff, dgUp_iff m]
    constructor
    · rintro ⟨⟨h1, h2⟩, h3⟩
      refine ⟨h1, fun i hi => ?_⟩
      rcases Nat.lt_or_ge i m with q | q
      · exact h2 i q
      · rw [show i = m by omega]; exact h3
    · rintro ⟨h1, h2⟩
      exact ⟨⟨h1, fun i hi => h2 i (by omega)⟩, h2 m (by omega)⟩
theorem isGreat_ok {n H : Nat} {on : Nat → Bool} {key : Nat → Nat} (K : KeyOK n H on key) {D : QD} (t : TailQ n on D) {M : Mem} (hM : DicC n H key M D) {Q : Bool → Prop} (h : ∀ r : Bool, (r = false ↔ okQ n on D) → Q r) : wp_X3_isGreat 87 M Q := by
  obtain ⟨k1, k2, k3, k4, k5, k6⟩ := id K
  obtain ⟨m1, m2, m3, m4, m5⟩ := hM
  unfold wp_X3_isGreat
  rw [rt_87.1]
  refine X7_isGreat_ok IsRw_88 m4 ?_
  refine ⟨fun x1 x2 => ∃ k : Nat, x2 = (k : Int) ∧ k ≤ H ∧ x1 = dgUp key D k, fun _ x2 => ((H : Int) - x2).toNat, ⟨0, rfl, Nat.zero_le _, rfl⟩, ?_⟩
  rintro x1 x2 ⟨k, rfl, hk, rfl⟩
  unfold wp_X3_isGreat_B10 wp_X3_isGreat_b34 wp_X3_isGreat_b39
  dsimp only
  rw [m2, w32n (show k < 2147483648 by omega), w32n (show H < 2147483648 by omega), ixn (show k < 2147483648 by omega), rt_87.2.1]
  refine ⟨fun u => ?_, fun u => ?_⟩
  · have : k = H := by omega
    subst this
    refine h _ ?_
    rw [dgUp_iff, okQ_rows K, rowGreat_iff k2 (t 9 (by decide) k6)]
    constructor
    · rintro ⟨a, b⟩
      exact ⟨a, fun i hi => (rowGreat_iff k2 (t _ (by have := (k3 i hi).1; omega) (k3 i hi).2)).mp (b i hi)⟩
    · rintro ⟨a, b⟩
      exact ⟨a, fun i hi => (rowGreat_iff k2 (t _ (by have := (k3 i hi).1; omega) (k3 i hi).2)).mpr (b i hi)⟩
  · have e : dgUp key D (k + 1) = (dgUp key D k || rowGreat (D.B (key k)) (D.S (key k))) := rfl
    refine ⟨fun v => ⟨⟨k + 1, rfl, by omega, by rw [e, v]; rfl⟩, by omega⟩, fun v => ⟨inbn LN_96 (by omega), ?_⟩⟩
    rw [rt_96 k (by omega)]
    refine X7_isGreat_ok (IsRw_p (by omega)) (m3 k (by omega)).2 ?_
    exact ⟨fun z => ⟨⟨k + 1, rfl, by omega, by rw [e, v, z]; rfl⟩, by omega⟩, fun z => ⟨⟨k + 1, rfl, by omega, by rw [e, v, z]; rfl⟩, by omega⟩⟩
