/-! where a share enters, in the reference; what is GREAT leaves 0/1 -/
def Acc0 (M : Mem) : Prop := M 189 9 = 0 ∧ M 189 10 = 1
theorem lowest_great2 {n d : Int} {M : Mem} {Q : Mem → Prop} (hf : fb M 189 8 = true) (h : ∀ M' : Mem, fb M' 189 8 = true → Acc0 M' → FrF M M' → Q M') : wp_X12_lowest 189 n d M Q := by
  rintro M2 rfl M7 rfl
  have e : fb (st2 (st2 M 189 9 0) 189 10 1) 189 8 = true := by rw [fb_n _ _ (by omega), fb_n _ _ (by omega)]; exact hf
  exact ⟨fun z => (by rw [e] at z; cases z), fun _ => h _ e ⟨by rw [st2_n _ _ (by omega), st2_s], st2_s _ _ _ _⟩ (fun k j q => by rw [st2_n _ _ (by omega), st2_n _ _ (by omega)])⟩
theorem rproduct_great2 {a b c d : Int} {M : Mem} {Q : Mem → Prop} (hf : fb M 189 8 = true) (h : ∀ M' : Mem, fb M' 189 8 = true → Acc0 M' → FrF M M' → Q M') : wp_X12_product 189 a b c d M Q :=
  times_any fun _ M1 h1 => times_any fun _ M2 h2 => lowest_great2 (h2.2 (h1.2 hf)) (fun M' x z y => h M' x z (FrF_trans (FrF_trans (FrT_F h1) (FrT_F h2)) y))
theorem rquotient_great2 {a b c d : Int} {M : Mem} {Q : Mem → Prop} (hf : fb M 189 8 = true) (h : ∀ M' : Mem, fb M' 189 8 = true → Acc0 M' → FrF M M' → Q M') : wp_X12_quotient 189 a b c d M Q :=
  ⟨fun _ => rproduct_great2 hf h, fun _ => rproduct_great2 hf h⟩
def RF2 (M : Mem) (q : Q2) : Prop := (q = none ∧ fb M 189 8 = true ∧ Acc0 M) ∨ ∃ x, q = some x ∧ fb M 189 8 = false ∧ M 189 9 = x.1 ∧ M 189 10 = x.2
theorem RF2_of {M : Mem} {q : Q2} (h : RF M q) (hn : q ≠ none) : RF2 M q := by
  cases q with
  | none => exact absurd rfl hn
  | some x => exact Or.inr ⟨x, rfl, h.1, h.2.1, h.2.2⟩
theorem rproduct_ok2 {x y : Int × Int} (hx : inL x.1 ∧ inL x.2) (hy : inL y.1 ∧ inL y.2) (hp : 0 < x.2 * y.2) {M : Mem} {Q : Mem → Prop} (hf : fb M 189 8 = false) (h : ∀ M' : Mem, RF2 M' (mulq x y) → FrF M M' → Q M') : wp_X12_product 189 x.1 x.2 y.1 y.2 M Q := by
  have em : mulq x y = if fitsL (x.1 * y.1) && fitsL (x.2 * y.2) then redq (x.1 * y.1) (x.2 * y.2) else none := rfl
  refine times_ok hx.1 hy.1 (fun f1 => times_ok hx.2 hy.2 (fun f2 => ?_) (fun f2 M1 h1 g1 => ?_)) (fun f1 M1 h1 g1 => times_any fun r M2 h2 => ?_)
  · rw [f1, f2] at em
    refine lowest_ok hf (fitsL_iff.mp f1) ⟨hp, (fitsL_iff.mp f2).2⟩ (fun M' q1 q2 => h M' (RF2_of (by rw [em]; exact q1) ?_) q2)
    rw [em, if_pos (show (true && true) = true from rfl), redq_some f1 f2]
    exact fun z => by cases z
  · rw [f1, f2] at em
    exact lowest_great2 g1 (fun M' q1 q3 q2 => h M' (Or.inl ⟨em, q1, q3⟩) (FrF_trans (FrT_F h1) q2))
  · rw [f1] at em
    exact lowest_great2 (h2.2 g1) (fun M' q1 q3 q2 => h M' (Or.inl ⟨em, q1, q3⟩) (FrF_trans (FrF_trans (FrT_F h1) (FrT_F h2)) q2))
theorem rquotient_ok2 {x y : Int × Int} (hx : Fr x) (hy : Fr y) (h0 : y.1 ≠ 0) {M : Mem} {Q : Mem → Prop} (hf : fb M 189 8 = false) (h : ∀ M' : Mem, RF2 M' (divq x y) → FrF M M' → Q M') : wp_X12_quotient 189 x.1 x.2 y.1 y.2 M Q := by
  obtain ⟨x1, x2, x3⟩ := Fr_in hx
  obtain ⟨y1, y2, y3⟩ := Fr_in hy
  have ny1 : inL (-y.1) := ⟨by have := y1.2; omega, by have := y1.1; omega⟩
  have ny2 : inL (-y.2) := ⟨by have := y2.2; omega, by have := y2.1; omega⟩
  unfold wp_X12_quotient
  rw [vl_0, w64_in y1]
  unfold divq at h
  refine ⟨fun u => ?_, fun u => ?_⟩
  · rw [if_neg (by omega)] at h
    exact rproduct_ok2 (y := (y.2, y.1)) ⟨x1, x2⟩ ⟨y2, y1⟩ (Int.mul_pos x3 (by dsimp only; omega)) hf h
  · rw [if_pos (by omega)] at h
    exact rproduct_ok2 (y := (-y.2, -y.1)) ⟨x1, x2⟩ ⟨ny2, ny1⟩ (Int.mul_pos x3 (by dsimp only; omega)) hf h
def enSt (D : QD) (l k : Nat) (f : Bool) (x2 x3 x5 : Int) : Prop :=
  (f = true ∧ enUp D l k = none) ∨ (f = false ∧ ((enUp D l k = some none ∧ x2 = -1) ∨ ∃ (e : Nat) (q : Int × Int), enUp D l k = some (some e) ∧ x2 = (e : Int) ∧ above0 (D.S l e) = true ∧ rtS D l e = some q ∧ x3 = q.1 ∧ x5 = q.2))
theorem enters_ok {n H : Nat} {on : Nat → Bool} {key : Nat → Nat} (K : KeyOK n H on key) {D : QD} (w : WFQ n on D) (N : NumQ n on D) {p : Nat} (hp : p < H) {M : Mem} (hf : fb M 189 8 = false) (hM : DicR n H key M D) {Q : Int → Mem → Prop} (h : ∀ (r : Int) (M' : Mem), FrF M M' → ((fb M' 189 8 = true ∧ enUp D (key p) n = none) ∨ (fb M' 189 8 = false ∧ ((enUp D (key p) n = some none ∧ r = -1) ∨ ∃ e : Nat, enUp D (key p) n = some (some e) ∧ r = (e : Int) ∧ e < n ∧ above0 (D.S (key p) e) = true))) → Q r M') : wp_X12_enters 189 (p : Int) M Q := by
  have ok := DicR_ok K hM
  obtain ⟨k1, k2, k3, k4, k5, k6⟩ := id K
  obtain ⟨m1, m2, m3, m4, m5⟩ := hM
  obtain ⟨l9, lo⟩ := k3 p hp
  obtain ⟨l, hl⟩ : ∃ l, l = key p := ⟨_, rfl⟩
  have rw1 : RwR n M p (D.B l) (D.S l) := by rw [hl]; exact (m3 p hp).2
  rw [← hl] at l9 lo h
  have e5 : ∀ a c : Nat, (5 * (a : Int)) + (c : Int) = ((5 * a + c : Nat) : Int) := fun a c => by omega
  unfold wp_X12_enters
  refine ⟨fun M' x2 x3 x5 x7 => ∃ k : Nat, x7 = (k : Int) ∧ k ≤ n ∧ FrF M M' ∧ (inL x3 ∧ inL x5 ∧ 0 < x5) ∧ (x2 = -1 ∨ ∃ e : Nat, e < k ∧ x2 = (e : Int)) ∧ enSt D l k (fb M' 189 8) x2 x3 x5, fun _ _ _ _ x7 => ((n : Int) - x7).toNat, ⟨0, rfl, Nat.zero_le _, FrF_refl M, ⟨⟨by decide, by decide⟩, ⟨by decide, by decide⟩, by decide⟩, Or.inl rfl, Or.inr ⟨hf, Or.inl ⟨rfl, rfl⟩⟩⟩, ?_⟩
  rintro M1 x2 x3 x5 x7 ⟨k, rfl, hk, f1, ⟨i3, i5, p5⟩, f2, f3⟩
  unfold wp_X12_enters_B10
  dsimp only
  have μk : k < n → ((n : Int) - ((k : Int) + 1)).toNat < ((n : Int) - (k : Int)).toNat := fun z => by clear f2 f3; omega
  rw [f1 189 3 (by clear f2 f3; omega), m1, w32n (show k < 2147483648 by clear f2 f3; omega), w32n (show n < 2147483648 by clear f2 f3; omega), e5, rt_189.2.2.2.2.1, rt_189.2.2.2.2.2.1, rt_189.2.1, ixn (show 5 * p + k < 2147483648 by clear f2 f3; omega), ixn (show k < 2147483648 by clear f2 f3; omega)]
  refine ⟨fun u => ?_, fun u => ⟨inbn LN_200 (by clear f2 f3; omega), ?_⟩⟩
  · have : k = n := by clear f2 f3; omega
    subst this
    refine h x2 M1 f1 ?_
    rcases f3 with z | ⟨z, y | ⟨e, q, y1, y2, y3, y4, -⟩⟩
    · exact Or.inl z
    · exact Or.inr ⟨z, Or.inl y⟩
    · refine Or.inr ⟨z, Or.inr ⟨e, y1, y2, ?_, y3⟩⟩
      rcases f2 with t | ⟨e', t1, t2⟩
      · omega
      · omega
  have kn : k < n := by clear f2 f3; omega
  have k5' : k < 5 := by clear f2 f3; omega
  have l10 : l < 10 := by clear f2 f3; omega
  obtain ⟨x, xe, x1, xx⟩ := rw1.2 k kn
  have xF := (w l l10 lo).2 k kn x xe
  obtain ⟨y, ye, y1, y2⟩ := m4.2 k kn
  have yF := (w 9 (by decide) k6).2 k kn y ye
  have e45 : (45 : Int) + (k : Int) = ((5 * 9 + k : Nat) : Int) := by clear f2 f3; omega
  rw [e45, ixn (show 5 * 9 + k < 2147483648 by clear f2 f3; omega), f1 200 _ (by clear f2 f3; omega), f1 201 _ (by clear f2 f3; omega), f1 200 _ (by clear f2 f3; omega), f1 201 _ (by clear f2 f3; omega), x1, xx, y1, y2, vl_0, w64_in (Fr_in xF).1]
  -- the next column
  have b152 : ∀ (M2 : Mem) (z2 z3 z5 : Int), FrF M M2 → (inL z3 ∧ inL z5 ∧ 0 < z5) → (z2 = -1 ∨ ∃ e : Nat, e < k + 1 ∧ z2 = (e : Int)) → enSt D l (k + 1) (fb M2 189 8) z2 z3 z5 → wp_X12_enters_b152 189 Q (fun M' x2 x3 x5 x7' => (∃ k : Nat, x7' = (k : Int) ∧ k ≤ n ∧ FrF M M' ∧ (inL x3 ∧ inL x5 ∧ 0 < x5) ∧ (x2 = -1 ∨ ∃ e : Nat, e < k ∧ x2 = (e : Int)) ∧ enSt D l k (fb M' 189 8) x2 x3 x5) ∧ ((n : Int) - x7').toNat < ((n : Int) - (k : Int)).toNat) M2 (p : Int) z2 z3 z5 (k : Int) := fun M2 z2 z3 z5 q1 q2 q3 q4 => by
    unfold wp_X12_enters_b152
    exact ⟨⟨k + 1, rfl, kn, q1, q2, q3, q4⟩, μk kn⟩
  have grow : (x2 = -1 ∨ ∃ e : Nat, e < k ∧ x2 = (e : Int)) → (x2 = -1 ∨ ∃ e : Nat, e < k + 1 ∧ x2 = (e : Int)) := fun z => z.elim Or.inl (fun ⟨e, a, b⟩ => Or.inr ⟨e, by omega, b⟩)
  refine ⟨fun v => ⟨inbn LN_200 (by clear f2 f3; omega), inbn LN_201 (by clear f2 f3; omega), inbn LN_200 (by clear f2 f3; omega), inbn LN_201 (by clear f2 f3; omega), ?_⟩, fun v => ?_⟩
  case refine_2 =>
    have na : above0 (D.S l k) = false := by rw [xe]; exact decide_eq_false (by clear f2 f3; omega)
    refine b152 M1 x2 x3 x5 f1 ⟨i3, i5, p5⟩ (grow f2) ?_
    rcases f3 with ⟨z1, z2⟩ | ⟨z1, ⟨y1, y2⟩ | ⟨e, q, y1, y2⟩⟩
    · exact Or.inl ⟨z1, enUp_great (k + 1) k z2 (by omega)⟩
    · exact Or.inr ⟨z1, Or.inl ⟨enUp_skip y1 na, y2⟩⟩
    · exact Or.inr ⟨z1, Or.inr ⟨e, q, enUp_skip y1 na, y2⟩⟩
  have na : above0 (D.S l k) = true := by rw [xe]; exact decide_eq_true (by clear f2 f3; omega)
  -- behind the quotient
  have tail : ∀ (M2 : Mem) (a b : Int), FrF M M2 → (inL a ∧ inL b ∧ 0 < b) → M2 189 9 = a → M2 189 10 = b → (x2 = -1 → enSt D l (k + 1) (fb M2 189 8) (k : Int) a b) → (∀ e : Nat, x2 = (e : Int) → ltq (a, b) (x3, x5) = true → enSt D l (k + 1) (fb M2 189 8) (k : Int) a b) → (∀ e : Nat, x2 = (e : Int) → ltq (a, b) (x3, x5) = false → ltq (x3, x5) (a, b) = true → enSt D l (k + 1) (fb M2 189 8) x2 x3 x5) → (∀ e : Nat, x2 = (e : Int) → ltq (a, b) (x3, x5) = false → ltq (x3, x5) (a, b) = false → D.so k ≤ D.so e → enSt D l (k + 1) (fb M2 189 8) (k : Int) a b) → (∀ e : Nat, x2 = (e : Int) → ltq (a, b) (x3, x5) = false → ltq (x3, x5) (a, b) = false → ¬ D.so k ≤ D.so e → enSt D l (k + 1) (fb M2 189 8) x2 x3 x5) → (((w32 x2 = w32 (-1)) → wp_X12_enters_b138 189 Q (fun M' x2 x3 x5 x7' => (∃ k : Nat, x7' = (k : Int) ∧ k ≤ n ∧ FrF M M' ∧ (inL x3 ∧ inL x5 ∧ 0 < x5) ∧ (x2 = -1 ∨ ∃ e : Nat, e < k ∧ x2 = (e : Int)) ∧ enSt D l k (fb M' 189 8) x2 x3 x5) ∧ ((n : Int) - x7').toNat < ((n : Int) - (k : Int)).toNat) M2 (p : Int) (k : Int)) ∧ (¬ (w32 x2 = w32 (-1)) → wp_X12_isLess (M2 189 9) (M2 189 10) x3 x5 M2 (fun r96 => (r96 = true → wp_X12_enters_b138 189 Q (fun M' x2 x3 x5 x7' => (∃ k : Nat, x7' = (k : Int) ∧ k ≤ n ∧ FrF M M' ∧ (inL x3 ∧ inL x5 ∧ 0 < x5) ∧ (x2 = -1 ∨ ∃ e : Nat, e < k ∧ x2 = (e : Int)) ∧ enSt D l k (fb M' 189 8) x2 x3 x5) ∧ ((n : Int) - x7').toNat < ((n : Int) - (k : Int)).toNat) M2 (p : Int) (k : Int)) ∧ (r96 = false → wp_X12_isLess x3 x5 (M2 189 9) (M2 189 10) M2 (fun r113 => (r113 = true → wp_X12_enters_b152 189 Q (fun M' x2 x3 x5 x7' => (∃ k : Nat, x7' = (k : Int) ∧ k ≤ n ∧ FrF M M' ∧ (inL x3 ∧ inL x5 ∧ 0 < x5) ∧ (x2 = -1 ∨ ∃ e : Nat, e < k ∧ x2 = (e : Int)) ∧ enSt D l k (fb M' 189 8) x2 x3 x5) ∧ ((n : Int) - x7').toNat < ((n : Int) - (k : Int)).toNat) M2 (p : Int) x2 x3 x5 (k : Int)) ∧ (r113 = false → inb 197 (k : Int) ∧ inb 197 x2 ∧ ((w32 (M2 197 k) ≤ w32 (M2 197 (ix x2)) → wp_X12_enters_b138 189 Q (fun M' x2 x3 x5 x7' => (∃ k : Nat, x7' = (k : Int) ∧ k ≤ n ∧ FrF M M' ∧ (inL x3 ∧ inL x5 ∧ 0 < x5) ∧ (x2 = -1 ∨ ∃ e : Nat, e < k ∧ x2 = (e : Int)) ∧ enSt D l k (fb M' 189 8) x2 x3 x5) ∧ ((n : Int) - x7').toNat < ((n : Int) - (k : Int)).toNat) M2 (p : Int) (k : Int)) ∧ (¬ w32 (M2 197 k) ≤ w32 (M2 197 (ix x2)) → wp_X12_enters_b152 189 Q (fun M' x2 x3 x5 x7' => (∃ k : Nat, x7' = (k : Int) ∧ k ≤ n ∧ FrF M M' ∧ (inL x3 ∧ inL x5 ∧ 0 < x5) ∧ (x2 = -1 ∨ ∃ e : Nat, e < k ∧ x2 = (e : Int)) ∧ enSt D l k (fb M' 189 8) x2 x3 x5) ∧ ((n : Int) - x7').toNat < ((n : Int) - (k : Int)).toNat) M2 (p : Int) x2 x3 x5 (k : Int))))))))) := by
    intro M2 a b fr hab e9 e10 c1 c2 c3 c4 c5
    clear f3
    have tk : enSt D l (k + 1) (fb M2 189 8) (k : Int) a b → wp_X12_enters_b138 189 Q _ M2 (p : Int) (k : Int) := fun z => by
      unfold wp_X12_enters_b138
      rw [e9, e10]
      exact b152 M2 (k : Int) a b fr hab (Or.inr ⟨k, by omega, rfl⟩) z
    rcases f2 with rfl | ⟨e, ek, rfl⟩
    · exact ⟨fun _ => tk (c1 rfl), fun z => absurd rfl z⟩
    · refine ⟨fun z => absurd z (by rw [w32n (by omega), wm_1]; omega), fun _ => ?_⟩
      rw [e9, e10]
      refine isLess_ok hab.1 hab.2.1 i3 i5 hab.2.2 p5 ⟨fun z => tk (c2 e rfl z), fun z => ?_⟩
      refine isLess_ok i3 i5 hab.1 hab.2.1 p5 hab.2.2 ⟨fun z2 => b152 M2 _ _ _ fr ⟨i3, i5, p5⟩ (Or.inr ⟨e, by omega, rfl⟩) (c3 e rfl z z2), fun z2 => ?_⟩
      have s1 := N.2.2.1 k kn
      have s2 := N.2.2.1 e (by omega)
      rw [ixn (show e < 2147483648 by omega), fr 197 k (by omega), fr 197 e (by omega), m5 k kn, m5 e (by omega), w32n (show D.so k < 2147483648 by omega), w32n (show D.so e < 2147483648 by omega)]
      exact ⟨inbn LN_197 k5', inbn LN_197 (by omega), fun z3 => tk (c4 e rfl z z2 (by omega)), fun z3 => b152 M2 _ _ _ fr ⟨i3, i5, p5⟩ (Or.inr ⟨e, by omega, rfl⟩) (c5 e rfl z z2 (by omega))⟩
  have dead : ∀ M2 : Mem, FrF M M2 → fb M2 189 8 = true → Acc0 M2 → enUp D l (k + 1) = none → _ := fun M2 fr g1 g2 g3 => tail M2 0 1 fr ⟨⟨by decide, by decide⟩, ⟨by decide, by decide⟩, by decide⟩ g2.1 g2.2 (fun _ => Or.inl ⟨g1, g3⟩) (fun _ _ _ => Or.inl ⟨g1, g3⟩) (fun _ _ _ _ => Or.inl ⟨g1, g3⟩) (fun _ _ _ _ _ => Or.inl ⟨g1, g3⟩) (fun _ _ _ _ _ => Or.inl ⟨g1, g3⟩)
  rcases f3 with ⟨z1, z2⟩ | ⟨z1, z2⟩
  · exact rquotient_great2 z1 (fun M2 q1 q3 q2 => dead M2 (FrF_trans f1 q2) q1 q3 (enUp_great (k + 1) k z2 (by omega)))
  · refine rquotient_ok2 yF xF (above_ne na x xe) z1 (fun M2 q1 q2 => ?_)
    have er : rtS D l k = divq y x := by unfold rtS; rw [ye, xe]; rfl
    obtain ⟨r, hr⟩ : ∃ r, enUp D l k = some r := by
      rcases z2 with ⟨a, -⟩ | ⟨e, q, a, -⟩
      · exact ⟨_, a⟩
      · exact ⟨_, a⟩
    rcases q1 with ⟨g1, g2, g3⟩ | ⟨t, g1, g2, g3, g4⟩
    · exact dead M2 (FrF_trans f1 q2) g2 g3 (enUp_over hr na (by rw [er]; exact g1))
    · have et : rtS D l k = some t := by rw [er]; exact g1
      have tF := divq_Fr yF.1 (above_ne na x xe) t g1
      have take : enUp D l (k + 1) = some (some k) → enSt D l (k + 1) (fb M2 189 8) (k : Int) t.1 t.2 := fun z => Or.inr ⟨g2, Or.inr ⟨k, t, z, rfl, na, et, rfl, rfl⟩⟩
      refine tail M2 t.1 t.2 (FrF_trans f1 q2) ⟨(Fr_in tF).1, (Fr_in tF).2.1, tF.1⟩ g3 g4 (fun a => ?_) (fun e a c1 => ?_) (fun e a c1 c2 => ?_) (fun e a c1 c2 c3 => ?_) (fun e a c1 c2 c3 => ?_)
      · rcases z2 with ⟨b, -⟩ | ⟨e, q, b, c, -⟩
        · exact take (enUp_first b na et)
        · omega
      all_goals
        rcases z2 with ⟨-, b⟩ | ⟨e', q, b, c, d, g, i, j⟩
        · omega
        have ee : e' = e := by omega
        subst ee
        have bt : betterS D l k e' = (ltq t q || (!ltq q t && decide (D.so k ≤ D.so e'))) := by
          unfold betterS
          rw [et, g]
        have nx := enUp_next b na et
        rw [i, j] at c1
        have c1 : ltq t q = _ := c1
      · rw [bt, c1, Bool.true_or, if_pos rfl] at nx
        exact take nx
      · rw [i, j] at c2
        have c2 : ltq q t = true := c2
        rw [bt, c1, c2] at nx
        exact Or.inr ⟨g2, Or.inr ⟨e', q, nx, c, d, g, i, j⟩⟩
      · rw [i, j] at c2
        have c2 : ltq q t = false := c2
        rw [bt, c1, c2, decide_eq_true c3] at nx
        exact take nx
      · rw [i, j] at c2
        have c2 : ltq q t = false := c2
        rw [bt, c1, c2, decide_eq_false c3] at nx
        exact Or.inr ⟨g2, Or.inr ⟨e', q, nx, c, d, g, i, j⟩⟩
