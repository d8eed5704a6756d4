/-! the reference's dictionary, nothing GREAT -/
def DicR (n H : Nat) (key : Nat → Nat) (M : Mem) (D : QD) : Prop :=
  M 189 3 = (n : Int) ∧ M 189 11 = (H : Int) ∧ (∀ r, r < H → M 196 r = (D.num (key r) : Int) ∧ RwR n M r (D.B (key r)) (D.S (key r))) ∧ RwR n M 9 (D.B 9) (D.S 9) ∧ ∀ j, j < n → M 197 j = (D.so j : Int)
theorem DicR_ok {n H : Nat} {on : Nat → Bool} {key : Nat → Nat} (K : KeyOK n H on key) {M : Mem} {D : QD} (h : DicR n H key M D) : okQ n on D := by
  obtain ⟨-, -, m3, m4, -⟩ := h
  have ne : ∀ {a b i : Nat} {q : Q2}, CQ M a b i q → q ≠ none := fun ⟨x, e, _⟩ z => by rw [e] at z; cases z
  rw [okQ_rows K]
  exact ⟨⟨ne m4.1, fun j hj => ne (m4.2 j hj)⟩, fun i hi => ⟨ne (m3 i hi).2.1, fun j hj => ne ((m3 i hi).2.2 j hj)⟩⟩
theorem leaves_ok {n H : Nat} {on : Nat → Bool} {key : Nat → Nat} (K : KeyOK n H on key) {D : QD} (w : WFQ n on D) (N : NumQ n on D) {M : Mem} (hM : DicR n H key M D) {Q : Int → Prop} (h : ∀ r : Int, ((r = -1 ∧ lvS on D = none) ∨ ∃ p : Nat, r = (p : Int) ∧ p < H ∧ lvS on D = some (key p)) → Q r) : wp_X12_leaves 189 M Q := by
  obtain ⟨k1, k2, k3, k4, k5, k6⟩ := id K
  obtain ⟨m1, m2, m3, m4, m5⟩ := hM
  have av : ∀ i, i < H → (w64 (M 198 i) < 0 ↔ below0 (D.B (key i)) = true) := fun i hi => by
    obtain ⟨c1, c2⟩ := k3 i hi
    obtain ⟨x, x1, x2, -⟩ := (m3 i hi).2.1
    have xF := (w _ (by omega) c2).1 x x1
    rw [x2, x1, w64_in (Fr_in xF).1]
    exact decide_eq_true_iff.symm
  have nm : ∀ i, i < H → w32 (M 196 i) = (D.num (key i) : Int) := fun i hi => by
    rw [(m3 i hi).1, w32n]
    have := N.1 _ (k3 i hi).1 (k3 i hi).2
    omega
  unfold wp_X12_leaves
  refine ⟨fun x1 x2 => ∃ k : Nat, x2 = (k : Int) ∧ k ≤ H ∧ ((x1 = -1 ∧ ∀ i, i < k → below0 (D.B (key i)) = false) ∨ ∃ p : Nat, x1 = (p : Int) ∧ p < k ∧ below0 (D.B (key p)) = true ∧ ∀ i, i < k → below0 (D.B (key i)) = true → D.num (key p) ≤ D.num (key i)), fun _ x2 => ((H : Int) - x2).toNat, ⟨0, rfl, Nat.zero_le _, Or.inl ⟨rfl, fun _ q => absurd q (Nat.not_lt_zero _)⟩⟩, ?_⟩
  rintro x1 x2 ⟨k, rfl, hk, f⟩
  unfold wp_X12_leaves_B4 wp_X12_leaves_b43 wp_X12_leaves_b45
  dsimp only
  rw [m2, w32n (show k < 2147483648 by omega), w32n (show H < 2147483648 by omega), ixn (show k < 2147483648 by omega), rt_189.2.2.1, rt_189.1]
  refine ⟨fun u => ?_, fun u => ?_⟩
  · have : k = H := by clear f; omega
    subst this
    rcases f with ⟨rfl, f⟩ | ⟨p, rfl, p1, p2, p3⟩
    · exact h _ (Or.inl ⟨rfl, lv_none_of K f⟩)
    · exact h _ (Or.inr ⟨p, rfl, p1, lv_some_of K N p1 p2 p3⟩)
  have kH : k < H := by clear f; omega
  have a := av k kH
  have μk : ((H : Int) - ((k : Int) + 1)).toNat < ((H : Int) - (k : Int)).toNat := by clear f; omega
  rw [vl_0]
  refine ⟨inbn LN_198 (by clear f; omega), fun v => ⟨⟨k + 1, rfl, kH, ?_⟩, μk⟩, fun v => ?_⟩
  · have nb : below0 (D.B (key k)) = false := Bool.eq_false_iff.mpr (fun z => by have := a.mpr z; clear f; omega)
    rcases f with ⟨rfl, f⟩ | ⟨p, rfl, p1, p2, p3⟩
    · refine Or.inl ⟨rfl, fun i hi => ?_⟩
      rcases Nat.lt_or_ge i k with z | z
      · exact f i z
      · rw [show i = k by omega]; exact nb
    · refine Or.inr ⟨p, rfl, by omega, p2, fun i hi b => ?_⟩
      rcases Nat.lt_or_ge i k with z | z
      · exact p3 i z b
      · rw [show i = k by omega, nb] at b
        cases b
  · have yb : below0 (D.B (key k)) = true := a.mp (by clear f; omega)
    rcases f with ⟨rfl, f⟩ | ⟨p, rfl, p1, p2, p3⟩
    · refine ⟨fun _ => ⟨⟨k + 1, rfl, kH, Or.inr ⟨k, rfl, by omega, yb, fun i hi b => ?_⟩⟩, μk⟩, fun z => absurd rfl z⟩
      rcases Nat.lt_or_ge i k with z | z
      · rw [f i z] at b
        cases b
      · rw [show i = k by omega]; exact Nat.le_refl _
    · refine ⟨fun z => ?_, fun _ => ⟨inbn LN_196 (by omega), inbn LN_196 (by omega), ?_⟩⟩
      · rw [wm_1, w32n (by omega)] at z
        omega
      rw [ixn (show p < 2147483648 by omega), nm p (by omega), nm k kH]
      refine ⟨fun z => ⟨⟨k + 1, rfl, kH, Or.inr ⟨p, rfl, by omega, p2, fun i hi b => ?_⟩⟩, μk⟩, fun z => ⟨⟨k + 1, rfl, kH, Or.inr ⟨k, rfl, by omega, yb, fun i hi b => ?_⟩⟩, μk⟩⟩
      · rcases Nat.lt_or_ge i k with y | y
        · exact p3 i y b
        · rw [show i = k by omega]; omega
      · rcases Nat.lt_or_ge i k with y | y
        · have := p3 i y b
          omega
        · rw [show i = k by omega]; exact Nat.le_refl _
/-- off what LEAST of the reference writes -/
def FrZ (M M' : Mem) : Prop := ∀ k c, ¬ (k = 189 ∧ 8 ≤ c ∧ c ≤ 11) → ¬ (196 ≤ k ∧ k < 204) → M' k c = M k c
theorem FrZ_refl (M : Mem) : FrZ M M := fun _ _ _ _ => rfl
theorem FrZ_trans {M M2 M3 : Mem} (h : FrZ M M2) (h2 : FrZ M2 M3) : FrZ M M3 := fun k c q1 q2 => (h2 k c q1 q2).trans (h k c q1 q2)
theorem FrZ_F {M M' : Mem} (h : FrF M M') : FrZ M M' := fun k c q1 _ => h k c (by omega)
theorem FrZ_Fi {i : Nat} {M M' : Mem} (h : FrFi i M M') : FrZ M M' := fun k c q1 q2 => h k c (by omega) (by omega) (by omega)
theorem FrZ_Tu {r e : Nat} {M M' : Mem} (h : FrTu r e M M') : FrZ M M' := fun k c q1 q2 => h k c (by omega) (by omega) (by omega) (by omega) (by omega) (by omega)
theorem RwR_congr {n : Nat} {M : Mem} {i : Nat} {b b' : Q2} {s s' : Nat → Q2} (h : RwR n M i b s) (hb : b = b') (hs : ∀ j, j < n → s j = s' j) : RwR n M i b' s' := by
  subst hb
  exact ⟨h.1, fun j hj => by rw [← hs j hj]; exact h.2 j hj⟩
