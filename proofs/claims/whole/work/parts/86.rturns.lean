/-! the reference's exchange: the row that is solved -/
theorem rqneg_great {a b c d : Int} {M : Mem} {Q : Mem → Prop} (hf : fb M 189 8 = true) (h : ∀ M' : Mem, fb M' 189 8 = true → FrF M M' → Q M') : wp_X12_quotient 189 a b c d M (fun M1 => wp_X12_product 189 (M1 189 9) (M1 189 10) (-1) 1 M1 Q) :=
  rquotient_great hf (fun M1 p1 p2 => rproduct_great (RF_flag p1) (fun M2 q1 q2 => h M2 (RF_flag q1) (FrF_trans p2 q2)))
theorem rqneg_ok {x y : Int × Int} (hx : Fr x) (hy : Fr y) (h0 : y.1 ≠ 0) {M : Mem} {Q : Mem → Prop} (hf : fb M 189 8 = false) (h : ∀ M' : Mem, RF M' ((divq x y).map negq) → FrF M M' → Q M') : wp_X12_quotient 189 x.1 x.2 y.1 y.2 M (fun M1 => wp_X12_product 189 (M1 189 9) (M1 189 10) (-1) 1 M1 Q) := by
  refine rquotient_ok hx hy h0 hf (fun M1 p1 p2 => ?_)
  have dF := divq_Fr hx.1 h0
  cases z : divq x y with
  | none =>
    rw [z] at p1 h
    exact rproduct_great (RF_flag p1) (fun M2 q1 q2 => h M2 q1 (FrF_trans p2 q2))
  | some t =>
    rw [z] at p1 h
    have tF := dF t z
    rw [p1.2.1, p1.2.2]
    refine rproduct_ok (x := t) (y := (-1, 1)) ⟨(Fr_in tF).1, (Fr_in tF).2.1⟩ ⟨⟨by decide, by decide⟩, ⟨by decide, by decide⟩⟩ (by dsimp only; have := tF.1; omega) p1.1 (fun M2 q1 q2 => h M2 ?_ (FrF_trans p2 q2))
    rw [mulq_neg tF] at q1
    exact q1
def tuB (b : Q2) (s : Nat → Q2) (e : Nat) : Q2 := (ob divq b (s e)).map negq
def tuS (s : Nat → Q2) (e j : Nat) : Q2 := if j = e then ob divq (some (1, 1)) (s e) else (ob divq (s j) (s e)).map negq
def FrTa (r : Nat) (M M' : Mem) : Prop := ∀ k c, ¬ (k = 189 ∧ 8 ≤ c ∧ c ≤ 10) → ¬ ((k = 198 ∨ k = 199) ∧ c = r) → ¬ (k = 202 ∨ k = 203) → M' k c = M k c
def FrTu (r e : Nat) (M M' : Mem) : Prop := ∀ k c, ¬ (k = 189 ∧ 8 ≤ c ∧ c ≤ 10) → ¬ ((k = 198 ∨ k = 199) ∧ c = r) → ¬ (k = 202 ∨ k = 203) → ¬ ((k = 200 ∨ k = 201) ∧ 5 * r ≤ c ∧ c < 5 * r + 5) → ¬ (k = 196 ∧ c = r) → ¬ (k = 197 ∧ c = e) → M' k c = M k c
theorem turns_ok {n r e : Nat} (hn : n ≤ 5) (hr : r < 9) (he : e < n) {M : Mem} (h3 : M 189 3 = (n : Int)) {b : Q2} {s : Nat → Q2} (bF : FrO b) (sF : ∀ j, j < n → FrO (s j)) (ha : above0 (s e) = true) (hf : fb M 189 8 = false) (hd : RwR n M r b s) {Q : Mem → Prop} (h : ∀ M' : Mem, FrTu r e M M' → M' 196 r = M 197 e → M' 197 e = M 196 r → ((fb M' 189 8 = true ∧ (tuB b s e = none ∨ ∃ j, j < n ∧ tuS s e j = none)) ∨ (fb M' 189 8 = false ∧ RwR n M' r (tuB b s e) (tuS s e))) → Q M') : wp_X12_turns 189 (r : Int) (e : Int) M Q := by
  have e5 : ∀ a c : Nat, (5 * (a : Int)) + (c : Int) = ((5 * a + c : Nat) : Int) := fun a c => by omega
  obtain ⟨x, xe, x1, x2⟩ := hd.2 e he
  obtain ⟨w, we, w1, w2⟩ := hd.1
  have xF := sF e he x xe
  have x0 := above_ne ha x xe
  have wF := bF w we
  unfold wp_X12_turns
  rw [e5, rt_189.2.2.1, rt_189.2.2.2.1, rt_189.2.2.2.2.1, rt_189.2.2.2.2.2.1, ixn (show 5 * r + e < 2147483648 by omega), ixn (show r < 2147483648 by omega), x1, x2, w1, w2]
  refine ⟨inbn LN_200 (by omega), ?_⟩
  rintro v10 rfl
  refine ⟨inbn LN_201 (by omega), ?_⟩
  rintro v22 rfl
  refine ⟨inbn LN_198 (by omega), inbn LN_199 (by omega), ?_⟩
  refine rqneg_ok wF xF x0 hf (fun M1 p1 p2 => ⟨inbn LN_198 (by omega), ?_⟩)
  rintro M2 rfl
  refine ⟨inbn LN_199 (by omega), ?_⟩
  rintro M3 rfl
  have eb : tuB b s e = (divq w x).map negq := by unfold tuB; rw [we, xe]; rfl
  have ns : ∀ k, tuS s e k = if k = e then ob divq (some (1, 1)) (s e) else (ob divq (s k) (s e)).map negq := fun _ => rfl
  rw [← eb] at p1
  -- the last loop
  have copy : ∀ M4 : Mem, FrTa r M M4 → (∀ M' : Mem, M' 196 r = M 197 e → M' 197 e = M 196 r → (∀ k c, ¬ ((k = 200 ∨ k = 201) ∧ 5 * r ≤ c ∧ c < 5 * r + 5) → ¬ (k = 196 ∧ c = r) → ¬ (k = 197 ∧ c = e) → M' k c = M4 k c) → (∀ j, j < n → M' 200 (5 * r + j) = M4 202 j ∧ M' 201 (5 * r + j) = M4 203 j) → Q M') → wp_X12_turns_L184 189 Q M4 (r : Int) (e : Int) 0 := by
    intro M4 f4 hq
    refine ⟨fun M' x7 => ∃ k : Nat, x7 = (k : Int) ∧ k ≤ n ∧ (∀ k c, ¬ ((k = 200 ∨ k = 201) ∧ 5 * r ≤ c ∧ c < 5 * r + 5) → M' k c = M4 k c) ∧ ∀ j, j < k → M' 200 (5 * r + j) = M4 202 j ∧ M' 201 (5 * r + j) = M4 203 j, fun _ x7 => ((n : Int) - x7).toNat, ⟨0, rfl, Nat.zero_le _, fun _ _ _ => rfl, fun _ q => absurd q (Nat.not_lt_zero _)⟩, ?_⟩
    rintro M5 x7 ⟨k, rfl, hk, f5, g5⟩
    unfold wp_X12_turns_B184
    dsimp only
    have c196 : M5 196 r = M 196 r := by rw [f5 196 r (by omega), f4 196 r (by omega) (by omega) (by omega)]
    have c197 : M5 197 e = M 197 e := by rw [f5 197 e (by omega), f4 197 e (by omega) (by omega) (by omega)]
    rw [f5 189 3 (by omega), f4 189 3 (by omega) (by omega) (by omega), h3, w32n (show k < 2147483648 by omega), w32n (show n < 2147483648 by omega), e5, rt_189.1, rt_189.2.1, rt_189.2.2.2.2.1, rt_189.2.2.2.2.2.1, rt_189.2.2.2.2.2.2.1, rt_189.2.2.2.2.2.2.2, ixn (show k < 2147483648 by omega), ixn (show r < 2147483648 by omega), ixn (show e < 2147483648 by omega), ixn (show 5 * r + k < 2147483648 by omega)]
    refine ⟨fun u => ⟨inbn LN_196 hr, inbn LN_197 (by omega), inbn LN_196 hr, ?_⟩, fun u => ⟨inbn LN_202 (by omega), inbn LN_200 (by omega), ?_⟩⟩
    · have : k = n := by omega
      subst this
      rintro M6 rfl
      refine ⟨inbn LN_197 (by omega), ?_⟩
      rintro M7 rfl
      refine hq _ ?_ ?_ (fun a c q1 q2 q3 => ?_) (fun j hj => ?_)
      · rw [st2_n _ _ (by omega), st2_s]; exact c197
      · rw [st2_s]; exact c196
      · rw [st2_n _ _ (by omega), st2_n _ _ (by omega)]; exact f5 a c q1
      · obtain ⟨a, c⟩ := g5 j hj
        refine ⟨?_, ?_⟩
        · rw [st2_n _ _ (by omega), st2_n _ _ (by omega)]; exact a
        · rw [st2_n _ _ (by omega), st2_n _ _ (by omega)]; exact c
    · rintro M6 rfl
      refine ⟨inbn LN_203 (by omega), inbn LN_201 (by omega), ?_⟩
      rintro M7 rfl
      refine ⟨⟨k + 1, rfl, by omega, fun a c q => ?_, fun j hj => ?_⟩, by omega⟩
      · rw [st2_n _ _ (by omega), st2_n _ _ (by omega)]; exact f5 a c q
      · by_cases y : j = k
        · subst y
          refine ⟨?_, ?_⟩
          · rw [st2_n _ _ (by omega), st2_s]; exact f5 202 j (by omega)
          · rw [st2_s, st2_n _ _ (by omega)]; exact f5 203 j (by omega)
        · obtain ⟨a, c⟩ := g5 j (by omega)
          refine ⟨?_, ?_⟩
          · rw [st2_n _ _ (by omega), st2_n _ _ (by omega)]; exact a
          · rw [st2_n _ _ (by omega), st2_n _ _ (by omega)]; exact c
  -- the end
  have fin : ∀ M4 : Mem, FrTa r M M4 → ((fb M4 189 8 = true ∧ (tuB b s e = none ∨ ∃ j, j < n ∧ tuS s e j = none)) ∨ (fb M4 189 8 = false ∧ CQ M4 198 199 r (tuB b s e) ∧ ∀ j, j < n → CQ M4 202 203 j (tuS s e j))) → wp_X12_turns_L184 189 Q M4 (r : Int) (e : Int) 0 := by
    intro M4 f4 hs4
    refine copy M4 f4 (fun M' a1 a2 a3 a4 => ?_)
    have fe : fb M' 189 8 = fb M4 189 8 := fb_eq (a3 189 8 (fun q => by omega) (fun q => by omega) (fun q => by omega))
    refine h M' (fun k c q1 q2 q3 q4 q5 q6 => by rw [a3 k c q4 q5 q6]; exact f4 k c q1 q2 q3) a1 a2 ?_
    rw [fe]
    rcases hs4 with z | ⟨z1, z2, z3⟩
    · exact Or.inl z
    · refine Or.inr ⟨z1, CQ_same z2 (a3 _ _ (by omega) (by omega) (by omega)) (a3 _ _ (by omega) (by omega) (by omega)), fun j hj => ?_⟩
      obtain ⟨t, t1, t2, t3⟩ := z3 j hj
      exact ⟨t, t1, by rw [(a4 j hj).1]; exact t2, by rw [(a4 j hj).2]; exact t3⟩
  have fr3 : FrTa r M (st2 (st2 M1 198 r (M1 189 9)) 199 r (st2 M1 198 r (M1 189 9) 189 10)) := fun k c q1 q2 q3 => by
    rw [st2_n _ _ (by omega), st2_n _ _ (by omega)]
    exact p2 k c (by omega)
  have hs3 : (fb (st2 (st2 M1 198 r (M1 189 9)) 199 r (st2 M1 198 r (M1 189 9) 189 10)) 189 8 = true ∧ (tuB b s e = none ∨ ∃ j, j < n ∧ tuS s e j = none)) ∨ (fb (st2 (st2 M1 198 r (M1 189 9)) 199 r (st2 M1 198 r (M1 189 9) 189 10)) 189 8 = false ∧ CQ (st2 (st2 M1 198 r (M1 189 9)) 199 r (st2 M1 198 r (M1 189 9) 189 10)) 198 199 r (tuB b s e)) := by
    rw [fb_n _ _ (fun q => absurd q.1 (by decide)), fb_n _ _ (fun q => absurd q.1 (by decide)), RF_flag p1]
    cases z : tuB b s e with
    | none => exact Or.inl ⟨rfl, Or.inl rfl⟩
    | some t =>
      rw [z] at p1
      refine Or.inr ⟨rfl, t, rfl, ?_, ?_⟩
      · rw [st2_n _ _ (by omega), st2_s]; exact p1.2.1
      · rw [st2_s, st2_n _ _ (by omega)]; exact p1.2.2
  refine ⟨fun M' x7 => ∃ k : Nat, x7 = (k : Int) ∧ k ≤ n ∧ FrTa r M M' ∧ ((fb M' 189 8 = true ∧ (tuB b s e = none ∨ ∃ j, j < n ∧ tuS s e j = none)) ∨ (fb M' 189 8 = false ∧ CQ M' 198 199 r (tuB b s e) ∧ ∀ j, j < k → CQ M' 202 203 j (tuS s e j))), fun _ x7 => ((n : Int) - x7).toNat, ⟨0, rfl, Nat.zero_le _, fr3, ?_⟩, ?_⟩
  · rcases hs3 with z | ⟨z1, z2⟩
    · exact Or.inl z
    · exact Or.inr ⟨z1, z2, fun _ q => absurd q (Nat.not_lt_zero _)⟩
  clear hs3 fr3 copy
  rintro M4 x7 ⟨k, rfl, hk, f4, hs4⟩
  unfold wp_X12_turns_B81
  dsimp only
  have μk : k < n → ((n : Int) - ((k : Int) + 1)).toNat < ((n : Int) - (k : Int)).toNat := fun z => by clear hs4; omega
  rw [f4 189 3 (by clear hs4; omega) (by clear hs4; omega) (by clear hs4; omega), h3, w32n (show k < 2147483648 by clear hs4; omega), w32n (show n < 2147483648 by clear hs4; omega), w32n (show e < 2147483648 by clear hs4; omega), e5, rt_189.2.2.2.2.1, rt_189.2.2.2.2.2.1, ixn (show 5 * r + k < 2147483648 by clear hs4; omega)]
  refine ⟨fun u => ?_, fun u => ?_⟩
  · have : k = n := by clear hs4; omega
    subst this
    exact fin M4 f4 hs4
  have kn : k < n := by clear hs4; omega
  have k5 : k < 5 := by clear hs4; omega
  -- what is stored
  have store : ∀ M5 : Mem, FrTa r M M5 → ((fb M5 189 8 = true ∧ (tuB b s e = none ∨ ∃ j, j < n ∧ tuS s e j = none)) ∨ (RF M5 (tuS s e k) ∧ tuS s e k ≠ none ∧ CQ M5 198 199 r (tuB b s e) ∧ ∀ j, j < k → CQ M5 202 203 j (tuS s e j))) → wp_X12_turns_b153 189 Q (fun M' x7' => (∃ k : Nat, x7' = (k : Int) ∧ k ≤ n ∧ FrTa r M M' ∧ ((fb M' 189 8 = true ∧ (tuB b s e = none ∨ ∃ j, j < n ∧ tuS s e j = none)) ∨ (fb M' 189 8 = false ∧ CQ M' 198 199 r (tuB b s e) ∧ ∀ j, j < k → CQ M' 202 203 j (tuS s e j)))) ∧ ((n : Int) - x7').toNat < ((n : Int) - (k : Int)).toNat) M5 (r : Int) (e : Int) x.1 x.2 (k : Int) := by
    intro M5 f5 hs5
    unfold wp_X12_turns_b153
    rw [rt_189.2.2.2.2.2.2.1, rt_189.2.2.2.2.2.2.2, ixn (show k < 2147483648 by clear hs4 hs5; omega)]
    refine ⟨inbn LN_202 (by clear hs4 hs5; omega), ?_⟩
    rintro M6 rfl
    refine ⟨inbn LN_203 (by clear hs4 hs5; omega), ?_⟩
    rintro M7 rfl
    refine ⟨⟨k + 1, rfl, kn, fun a c q1 q2 q3 => ?_, ?_⟩, μk kn⟩
    · clear hs4 hs5
      rw [st2_n _ _ (by omega), st2_n _ _ (by omega)]
      exact f5 a c q1 q2 q3
    · rw [fb_n _ _ (fun q => absurd q.1 (by decide)), fb_n _ _ (fun q => absurd q.1 (by decide))]
      rcases hs5 with z | ⟨z1, z2, z3, z4⟩
      · exact Or.inl z
      · clear hs4
        refine Or.inr ⟨?_, CQ_same z3 (by rw [st2_n _ _ (by omega), st2_n _ _ (by omega)]) (by rw [st2_n _ _ (by omega), st2_n _ _ (by omega)]), fun j hj => ?_⟩
        · rw [RF_flag z1]
          cases y : tuS s e k with
          | none => exact absurd y z2
          | some t => rfl
        · by_cases y : j = k
          · subst y
            cases y : tuS s e j with
            | none => exact absurd y z2
            | some t =>
              rw [y] at z1
              refine ⟨t, rfl, ?_, ?_⟩
              · rw [st2_n _ _ (by omega), st2_s]; exact z1.2.1
              · rw [st2_s, st2_n _ _ (by omega)]; exact z1.2.2
          · exact CQ_same (z4 j (by omega)) (by rw [st2_n _ _ (by omega), st2_n _ _ (by omega)]) (by rw [st2_n _ _ (by omega), st2_n _ _ (by omega)])
  have fa : ∀ M5 : Mem, FrF M4 M5 → FrTa r M M5 := fun M5 q a c q1 q2 q3 => by rw [q a c q1]; exact f4 a c q1 q2 q3
  rcases hs4 with z | ⟨z1, z2, z3⟩
  · refine ⟨fun v => ⟨inbn LN_200 (by clear z; omega), inbn LN_201 (by clear z; omega), rqneg_great z.1 (fun M5 q1 q2 => store M5 (fa M5 q2) (Or.inl ⟨q1, z.2⟩))⟩, fun v => rquotient_great z.1 (fun M5 q1 q2 => store M5 (fa M5 q2) (Or.inl ⟨RF_flag q1, z.2⟩))⟩
  · have good : ∀ M5 : Mem, FrF M4 M5 → RF M5 (tuS s e k) → wp_X12_turns_b153 189 Q _ M5 (r : Int) (e : Int) x.1 x.2 (k : Int) := fun M5 q1 q2 => by
      refine store M5 (fa M5 q1) ?_
      cases y : tuS s e k with
      | none =>
        rw [y] at q2
        exact Or.inl ⟨RF_flag q2, Or.inr ⟨k, kn, y⟩⟩
      | some t =>
        rw [y] at q2
        exact Or.inr ⟨q2, (fun z => by cases z), CQ_same z2 (q1 _ _ (by omega)) (q1 _ _ (by omega)), fun j hj => CQ_same (z3 j hj) (q1 _ _ (by omega)) (q1 _ _ (by omega))⟩
    obtain ⟨y, ye, y1, y2⟩ := hd.2 k kn
    refine ⟨fun v => ⟨inbn LN_200 (by omega), inbn LN_201 (by omega), ?_⟩, fun v => ?_⟩
    · rw [f4 200 _ (by omega) (by omega) (by omega), f4 201 _ (by omega) (by omega) (by omega), y1, y2]
      refine rqneg_ok (sF k kn y ye) xF x0 z1 (fun M5 q1 q2 => good M5 q2 ?_)
      rw [ns, if_neg (by omega), ye, xe]
      exact q1
    · refine rquotient_ok (x := (1, 1)) (unit_Fr _ rfl) xF x0 z1 (fun M5 q1 q2 => good M5 q2 ?_)
      rw [ns, if_pos (by omega), xe]
      exact q1
