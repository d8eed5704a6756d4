/-! the reference's exchange: one row -/
def CQ (M : Mem) (a b i : Nat) (q : Q2) : Prop := ∃ x, q = some x ∧ M a i = x.1 ∧ M b i = x.2
theorem CQ_same {M M' : Mem} {a b i : Nat} {q : Q2} (h : CQ M a b i q) (e1 : M' a i = M a i) (e2 : M' b i = M b i) : CQ M' a b i q := by
  obtain ⟨x, h1, h2, h3⟩ := h
  exact ⟨x, h1, by rw [e1]; exact h2, by rw [e2]; exact h3⟩
def RwR (n : Nat) (M : Mem) (i : Nat) (b : Q2) (s : Nat → Q2) : Prop := CQ M 198 199 i b ∧ ∀ j, j < n → CQ M 200 201 (5 * i + j) (s j)
/-- what one row's filling may change -/
def FrFi (i : Nat) (M M' : Mem) : Prop := ∀ k c, ¬ (k = 189 ∧ 8 ≤ c ∧ c ≤ 10) → ¬ ((k = 198 ∨ k = 199) ∧ c = i) → ¬ ((k = 200 ∨ k = 201) ∧ 5 * i ≤ c ∧ c < 5 * i + 5) → M' k c = M k c
theorem FrFi_F {i : Nat} {M M' : Mem} (h : FrF M M') : FrFi i M M' := fun k c q1 _ _ => h k c q1
theorem FrFi_trans {i : Nat} {M M2 M3 : Mem} (h : FrFi i M M2) (h2 : FrFi i M2 M3) : FrFi i M M3 := fun k c q1 q2 q3 => (h2 k c q1 q2 q3).trans (h k c q1 q2 q3)
theorem rt_189 : rt 189 12 = 196 ∧ rt 189 13 = 197 ∧ rt 189 14 = 198 ∧ rt 189 15 = 199 ∧ rt 189 16 = 200 ∧ rt 189 17 = 201 ∧ rt 189 18 = 202 ∧ rt 189 19 = 203 := by decide +kernel
def newB (b pb : Q2) (s : Nat → Q2) (e : Nat) : Q2 := ob addq b (ob mulq pb (s e))
def newS (s ps : Nat → Q2) (e j : Nat) : Q2 := if j = e then ob mulq (s e) (ps e) else ob addq (s j) (ob mulq (ps j) (s e))
theorem RwR_off {n : Nat} {M M' : Mem} {i r : Nat} {b : Q2} {s : Nat → Q2} (hn : n ≤ 5) (hir : i ≠ r) (h : RwR n M r b s) (f : FrFi i M M') : RwR n M' r b s :=
  ⟨CQ_same h.1 (f _ _ (by omega) (by omega) (by omega)) (f _ _ (by omega) (by omega) (by omega)), fun j hj => CQ_same (h.2 j hj) (f _ _ (by omega) (by omega) (by omega)) (f _ _ (by omega) (by omega) (by omega))⟩
theorem fb_FrFi {M M' : Mem} (h : ∀ c, M' 189 c = M 189 c) : fb M' 189 8 = fb M 189 8 := fb_eq (h 8)
theorem fills_ok {n i r e : Nat} (hn : n ≤ 5) (hi : i < 10) (hr : r < 10) (hir : i ≠ r) (he : e < n) {M : Mem} (h3 : M 189 3 = (n : Int)) {b pb : Q2} {s ps : Nat → Q2} (bF : FrO b) (pF : FrO pb) (sF : ∀ j, j < n → FrO (s j)) (psF : ∀ j, j < n → FrO (ps j)) (hs : fb M 189 8 = true ∨ (fb M 189 8 = false ∧ RwR n M i b s ∧ RwR n M r pb ps)) {Q : Mem → Prop} (h : ∀ M' : Mem, FrFi i M M' → ((fb M' 189 8 = true ∧ (fb M 189 8 = true ∨ newB b pb s e = none ∨ ∃ j, j < n ∧ newS s ps e j = none)) ∨ (fb M' 189 8 = false ∧ fb M 189 8 = false ∧ RwR n M' i (newB b pb s e) (newS s ps e))) → Q M') : wp_X12_fills 189 (i : Int) (r : Int) (e : Int) M Q := by
  have e5 : ∀ a c : Nat, (5 * (a : Int)) + (c : Int) = ((5 * a + c : Nat) : Int) := fun a c => by omega
  unfold wp_X12_fills
  rw [e5, rt_189.2.2.1, rt_189.2.2.2.1, rt_189.2.2.2.2.1, rt_189.2.2.2.2.2.1, ixn (show 5 * i + e < 2147483648 by omega), ixn (show r < 2147483648 by omega), ixn (show i < 2147483648 by omega)]
  refine ⟨inbn LN_200 (by omega), ?_⟩
  rintro v10 rfl
  refine ⟨inbn LN_201 (by omega), ?_⟩
  rintro v22 rfl
  refine ⟨inbn LN_198 hr, inbn LN_199 hr, ?_⟩
  -- behind the bare
  have rest : ∀ M1 : Mem, FrFi i M M1 → ((fb M1 189 8 = true ∧ (fb M 189 8 = true ∨ newB b pb s e = none)) ∨ (fb M1 189 8 = false ∧ fb M 189 8 = false ∧ CQ M1 198 199 i (newB b pb s e) ∧ (∀ j, j < n → CQ M1 200 201 (5 * i + j) (s j)))) → wp_X12_fills_L91 189 Q M1 (i : Int) (r : Int) (e : Int) (M 200 (5 * i + e)) (M 201 (5 * i + e)) 0 := by
    intro M1 f1 hs1
    refine ⟨fun M' x8 => ∃ k : Nat, x8 = (k : Int) ∧ k ≤ n ∧ FrFi i M M' ∧ ((fb M' 189 8 = true ∧ (fb M 189 8 = true ∨ newB b pb s e = none ∨ ∃ j, j < n ∧ newS s ps e j = none)) ∨ (fb M' 189 8 = false ∧ fb M 189 8 = false ∧ CQ M' 198 199 i (newB b pb s e) ∧ (∀ j, j < k → CQ M' 200 201 (5 * i + j) (newS s ps e j)) ∧ ∀ j, k ≤ j → j < n → CQ M' 200 201 (5 * i + j) (s j))), fun _ x8 => ((n : Int) - x8).toNat, ⟨0, rfl, Nat.zero_le _, f1, ?_⟩, ?_⟩
    · rcases hs1 with ⟨a, c | c⟩ | ⟨a, b, c, d⟩
      · exact Or.inl ⟨a, Or.inl c⟩
      · exact Or.inl ⟨a, Or.inr (Or.inl c)⟩
      · exact Or.inr ⟨a, b, c, fun _ q => absurd q (Nat.not_lt_zero _), fun j _ hj => d j hj⟩
    rintro M2 x8 ⟨k, rfl, hk, f2, hs2⟩
    unfold wp_X12_fills_B91
    dsimp only
    have μk : k < n → ((n : Int) - ((k : Int) + 1)).toNat < ((n : Int) - (k : Int)).toNat := fun z => by clear hs hs1 hs2; omega
    rw [f2 189 3 (by clear hs hs1 hs2; omega) (by clear hs hs1 hs2; omega) (by clear hs hs1 hs2; omega), h3, w32n (show k < 2147483648 by clear hs hs1 hs2; omega), w32n (show n < 2147483648 by clear hs hs1 hs2; omega), w32n (show e < 2147483648 by clear hs hs1 hs2; omega), e5, e5, rt_189.2.2.2.2.1, rt_189.2.2.2.2.2.1, ixn (show 5 * r + k < 2147483648 by clear hs hs1 hs2; omega), ixn (show 5 * i + k < 2147483648 by clear hs hs1 hs2; omega)]
    refine ⟨fun u => ?_, fun u => ⟨inbn LN_200 (by clear hs hs1 hs2; omega), inbn LN_201 (by clear hs hs1 hs2; omega), ?_⟩⟩
    · have : k = n := by clear hs hs1 hs2; omega
      subst this
      rcases hs2 with a | ⟨a, b, c, d, -⟩
      · exact h M2 f2 (Or.inl a)
      · exact h M2 f2 (Or.inr ⟨a, b, c, d⟩)
    have kn : k < n := by clear hs hs1 hs2; omega
    have k50 : 5 * i + k < 50 := by clear hs hs1 hs2; omega
    have cell : ∀ (k2 c : Nat), (k2 = 200 ∨ k2 = 201) → c = 5 * i + k → (5 * i ≤ c ∧ c < 5 * i + 5) := fun k2 c _ z => by clear hs hs1 hs2; omega
    -- what is stored
    have store : ∀ M3 : Mem, FrFi i M M3 → ((fb M3 189 8 = true ∧ (fb M 189 8 = true ∨ newB b pb s e = none ∨ ∃ j, j < n ∧ newS s ps e j = none)) ∨ (fb M 189 8 = false ∧ RF M3 (newS s ps e k) ∧ newS s ps e k ≠ none ∧ CQ M3 198 199 i (newB b pb s e) ∧ (∀ j, j < k → CQ M3 200 201 (5 * i + j) (newS s ps e j)) ∧ ∀ j, k ≤ j → j < n → CQ M3 200 201 (5 * i + j) (s j))) → wp_X12_fills_b170 189 Q (fun M' x8' => (∃ k : Nat, x8' = (k : Int) ∧ k ≤ n ∧ FrFi i M M' ∧ ((fb M' 189 8 = true ∧ (fb M 189 8 = true ∨ newB b pb s e = none ∨ ∃ j, j < n ∧ newS s ps e j = none)) ∨ (fb M' 189 8 = false ∧ fb M 189 8 = false ∧ CQ M' 198 199 i (newB b pb s e) ∧ (∀ j, j < k → CQ M' 200 201 (5 * i + j) (newS s ps e j)) ∧ ∀ j, k ≤ j → j < n → CQ M' 200 201 (5 * i + j) (s j)))) ∧ ((n : Int) - x8').toNat < ((n : Int) - (k : Int)).toNat) M3 (i : Int) (r : Int) (e : Int) (M 200 (5 * i + e)) (M 201 (5 * i + e)) (k : Int) ((5 * i + k : Nat) : Int) := by
      intro M3 f3 hs3
      unfold wp_X12_fills_b170
      rw [rt_189.2.2.2.2.1, rt_189.2.2.2.2.2.1, ixn (show 5 * i + k < 2147483648 by clear hs hs1 hs2 hs3; omega)]
      refine ⟨inbn LN_200 k50, ?_⟩
      rintro M4 rfl
      refine ⟨inbn LN_201 k50, ?_⟩
      rintro M5 rfl
      refine ⟨⟨k + 1, rfl, kn, ?_, ?_⟩, μk kn⟩
      · intro k2 c q1 q2 q3
        clear hs hs1 hs2 hs3
        rw [st2_n _ _ (by omega), st2_n _ _ (by omega)]
        exact f3 k2 c q1 q2 q3
      · rcases hs3 with ⟨a, b⟩ | ⟨a, b, c, d, g, m⟩
        · exact Or.inl ⟨by rw [fb_n _ _ (fun q => absurd q.1 (by decide)), fb_n _ _ (fun q => absurd q.1 (by decide))]; exact a, b⟩
        · refine Or.inr ⟨?_, a, ?_, fun j hj => ?_, fun j j1 j2 => ?_⟩
          · rw [fb_n _ _ (fun q => absurd q.1 (by decide)), fb_n _ _ (fun q => absurd q.1 (by decide)), RF_flag b]
            cases z : newS s ps e k with
            | none => exact absurd z c
            | some y => rfl
          · clear hs hs1 hs2
            exact CQ_same d (by rw [st2_n _ _ (by omega), st2_n _ _ (by omega)]) (by rw [st2_n _ _ (by omega), st2_n _ _ (by omega)])
          · clear hs hs1 hs2
            by_cases y : j = k
            · subst y
              cases z : newS s ps e j with
              | none => exact absurd z c
              | some x =>
                rw [z] at b
                refine ⟨x, rfl, ?_, ?_⟩
                · rw [st2_n _ _ (by omega), st2_s]; exact b.2.1
                · rw [st2_s, st2_n _ _ (by omega)]; exact b.2.2
            · exact CQ_same (g j (by omega)) (by rw [st2_n _ _ (by omega), st2_n _ _ (by omega)]) (by rw [st2_n _ _ (by omega), st2_n _ _ (by omega)])
          · clear hs hs1 hs2
            exact CQ_same (m j (by omega) j2) (by rw [st2_n _ _ (by omega), st2_n _ _ (by omega)]) (by rw [st2_n _ _ (by omega), st2_n _ _ (by omega)])
    have ns : newS s ps e k = if k = e then ob mulq (s e) (ps e) else ob addq (s k) (ob mulq (ps k) (s e)) := rfl
    rcases hs2 with ⟨a, b⟩ | ⟨a, b0, c, d, g⟩
    · refine rproduct_great a (fun M3 p1 p2 => ⟨fun u => ?_, fun u => ⟨inbn LN_200 k50, inbn LN_201 k50, ?_⟩⟩)
      · exact store M3 (FrFi_trans f2 (FrFi_F p2)) (Or.inl ⟨RF_flag p1, b⟩)
      · refine rsum_great (RF_flag p1) (fun M4 q1 q2 => store M4 (FrFi_trans f2 (FrFi_F (FrF_trans p2 q2))) (Or.inl ⟨RF_flag q1, b⟩))
    · obtain ⟨hd1, hd2⟩ : RwR n M i b s ∧ RwR n M r pb ps := by
        rcases hs with z | z
        · rw [z] at b0; cases b0
        · exact z.2
      obtain ⟨x, xe, x1, x2⟩ := hd1.2 e he
      obtain ⟨y, ye, y1, y2⟩ := (RwR_off hn hir hd2 f2).2 k kn
      have xF := sF e he x xe
      have yF := psF k kn y ye
      rw [x1, x2] at store ⊢
      rw [y1, y2]
      refine rproduct_ok ⟨(Fr_in xF).1, (Fr_in xF).2.1⟩ ⟨(Fr_in yF).1, (Fr_in yF).2.1⟩ (Int.mul_pos xF.1 yF.1) a (fun M3 p1 p2 => ?_)
      have keepCQ : ∀ (M4 : Mem), FrF M2 M4 → CQ M4 198 199 i (newB b pb s e) ∧ (∀ j, j < k → CQ M4 200 201 (5 * i + j) (newS s ps e j)) ∧ ∀ j, k ≤ j → j < n → CQ M4 200 201 (5 * i + j) (s j) := fun M4 q => by
        clear hs hs1
        exact ⟨CQ_same c (q _ _ (by omega)) (q _ _ (by omega)), fun j hj => CQ_same (d j hj) (q _ _ (by omega)) (q _ _ (by omega)), fun j j1 j2 => CQ_same (g j j1 j2) (q _ _ (by omega)) (q _ _ (by omega))⟩
      have fin : ∀ M4 : Mem, FrF M2 M4 → RF M4 (newS s ps e k) → wp_X12_fills_b170 189 Q _ M4 (i : Int) (r : Int) (e : Int) x.1 x.2 (k : Int) ((5 * i + k : Nat) : Int) := fun M4 q1 q2 => by
        refine store M4 (FrFi_trans f2 (FrFi_F q1)) ?_
        cases z : newS s ps e k with
        | none =>
          rw [z] at q2
          exact Or.inl ⟨RF_flag q2, Or.inr (Or.inr ⟨k, kn, z⟩)⟩
        | some w =>
          rw [z] at q2
          refine Or.inr ⟨b0, q2, (fun z => by cases z), keepCQ M4 q1⟩
      refine ⟨fun u => ?_, fun u => ⟨inbn LN_200 k50, inbn LN_201 k50, ?_⟩⟩
      · have ke : k = e := by clear hs hs1; omega
        refine fin M3 p2 ?_
        rw [ns, if_pos ke, xe, ← ke, ye]
        exact p1
      · have ke : ¬ k = e := by clear hs hs1; omega
        obtain ⟨w, we, w1, w2⟩ := (keepCQ M3 p2).2.2 k (Nat.le_refl _) kn
        rw [if_neg ke, we, ye, xe] at ns
        have ns : newS s ps e k = ob addq (some w) (mulq x y) := by rw [ns, mulq_comm x y]; rfl
        rw [w1, w2]
        cases z : mulq x y with
        | none =>
          rw [z] at p1 ns
          refine rsum_great (RF_flag p1) (fun M4 q1 q2 => fin M4 (FrF_trans p2 q2) ?_)
          rw [ns]
          exact q1
        | some t =>
          rw [z] at p1 ns
          have tF := mulq_Fr xF.1 yF.1 t z
          rw [p1.2.1, p1.2.2]
          refine rsum_ok (sF k kn w we) tF p1.1 (fun M4 q1 q2 => fin M4 (FrF_trans p2 q2) ?_)
          rw [ns]
          exact q1
  have keep : ∀ M4 : Mem, FrFi i M M4 → FrFi i M (st2 (st2 M4 198 i (M4 189 9)) 199 i (st2 M4 198 i (M4 189 9) 189 10)) := fun M4 f k2 c q1 q2 q3 => by
    clear hs
    rw [st2_n _ _ (by omega), st2_n _ _ (by omega)]
    exact f k2 c q1 q2 q3
  rcases hs with a | ⟨a, hd1, hd2⟩
  · refine rproduct_great a (fun M3 p1 p2 => ⟨inbn LN_198 hi, inbn LN_199 hi, ?_⟩)
    refine rsum_great (RF_flag p1) (fun M4 q1 q2 => ⟨inbn LN_198 hi, ?_⟩)
    rintro M5 rfl
    refine ⟨inbn LN_199 hi, ?_⟩
    rintro M6 rfl
    refine rest _ (keep M4 (FrFi_F (FrF_trans p2 q2))) (Or.inl ⟨?_, Or.inl a⟩)
    rw [fb_n _ _ (fun q => absurd q.1 (by decide)), fb_n _ _ (fun q => absurd q.1 (by decide))]
    exact RF_flag q1
  · obtain ⟨x, xe, x1, x2⟩ := hd1.2 e he
    obtain ⟨y, ye, y1, y2⟩ := hd2.1
    obtain ⟨w, we, w1, w2⟩ := hd1.1
    have xF := sF e he x xe
    have yF := pF y ye
    rw [x1, x2] at rest ⊢
    rw [y1, y2]
    refine rproduct_ok ⟨(Fr_in xF).1, (Fr_in xF).2.1⟩ ⟨(Fr_in yF).1, (Fr_in yF).2.1⟩ (Int.mul_pos xF.1 yF.1) a (fun M3 p1 p2 => ⟨inbn LN_198 hi, inbn LN_199 hi, ?_⟩)
    have nb : newB b pb s e = ob addq (some w) (mulq x y) := by
      unfold newB
      rw [we, ye, xe, mulq_comm x y]
      rfl
    rw [p2 198 i (by omega), p2 199 i (by omega), w1, w2]
    have fin : ∀ M4 : Mem, FrF M M4 → RF M4 (newB b pb s e) → wp_X12_fills_L91 189 Q (st2 (st2 M4 198 i (M4 189 9)) 199 i (st2 M4 198 i (M4 189 9) 189 10)) (i : Int) (r : Int) (e : Int) x.1 x.2 0 := fun M4 q1 q2 => by
      refine rest _ (keep M4 (FrFi_F q1)) ?_
      rw [fb_n _ _ (fun q => absurd q.1 (by decide)), fb_n _ _ (fun q => absurd q.1 (by decide)), RF_flag q2]
      cases z : newB b pb s e with
      | none => exact Or.inl ⟨rfl, Or.inr rfl⟩
      | some t =>
        rw [z] at q2
        refine Or.inr ⟨rfl, a, ⟨t, rfl, ?_, ?_⟩, fun j hj => CQ_same (hd1.2 j hj) ?_ ?_⟩
        · rw [st2_n _ _ (by omega), st2_s]; exact q2.2.1
        · rw [st2_s, st2_n _ _ (by omega)]; exact q2.2.2
        · rw [st2_n _ _ (by omega), st2_n _ _ (by omega)]; exact q1 _ _ (by omega)
        · rw [st2_n _ _ (by omega), st2_n _ _ (by omega)]; exact q1 _ _ (by omega)
    cases z : mulq x y with
    | none =>
      rw [z] at p1 nb
      refine rsum_great (RF_flag p1) (fun M4 q1 q2 => ⟨inbn LN_198 hi, ?_⟩)
      rintro M5 rfl
      refine ⟨inbn LN_199 hi, ?_⟩
      rintro M6 rfl
      exact fin M4 (FrF_trans p2 q2) (by rw [nb]; exact q1)
    | some t =>
      rw [z] at p1 nb
      have tF := mulq_Fr xF.1 yF.1 t z
      rw [p1.2.1, p1.2.2]
      refine rsum_ok (bF w we) tF p1.1 (fun M4 q1 q2 => ⟨inbn LN_198 hi, ?_⟩)
      rintro M5 rfl
      refine ⟨inbn LN_199 hi, ?_⟩
      rintro M6 rfl
      exact fin M4 (FrF_trans p2 q2) (by rw [nb]; exact q1)
