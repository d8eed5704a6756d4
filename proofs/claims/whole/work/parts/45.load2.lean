def outL (f z : Int) (k : Nat) : Prop := f < 0 ∨ z < f + 2 * (k : Int) + 2
theorem load_cls {M : Mem} {Q : Int → Mem → Prop} {j n : Nat} {f z : Int} {it : Nat → Int × Int} (hj : j < 4) (hn : n ≤ 5) (hf : R32 f) (e2 : M (181 + 2 * j) 2 = z) (hz : 0 ≤ z ∧ z ≤ 40) (hit : ∀ i, i < 40 → R32 (M (182 + 2 * j) i)) (hrow : DRow (M 3)) (k21 : M 2 1 = 0) (k22 : M 2 2 = 5) (hI : ∀ k, f.toNat + 2 * k + 1 < 40 → it k = (M (182 + 2 * j) (f.toNat + 2 * k), M (182 + 2 * j) (f.toNat + 2 * k + 1)))
    (h : ∀ (m : Nat) (r : Int) (M' : Mem), m ≤ n → (∀ i, i < m → ¬ outL f z i) → ((m = n ∧ r = (loadN (M 3) it m).1) ∨ (m < n ∧ outL f z m ∧ r = -12)) → M' 3 = (loadN (M 3) it m).2 → (M' 0 5 = 1 ∨ ∀ k c, M' k c = M k c) → (∀ k c, k ≠ 3 → ¬ (k = 0 ∧ c = 5) → M' k c = M k c) → Q r M') : wp_X11_load_L72 0 Q M f (n : Int) (181 + 2 * j) 0 0 := by
  refine ⟨fun M' x6 x7 => ∃ m : Nat, x7 = (m : Int) ∧ m ≤ n ∧ (∀ i, i < m → ¬ outL f z i) ∧ x6 = (loadN (M 3) it m).1 ∧ M' 3 = (loadN (M 3) it m).2 ∧ (M' 0 5 = 1 ∨ ∀ k c, M' k c = M k c) ∧ (∀ k c, k ≠ 3 → ¬ (k = 0 ∧ c = 5) → M' k c = M k c), fun _ _ x7 => ((n : Int) - x7).toNat, ⟨0, rfl, Nat.zero_le _, fun i hi => by omega, rfl, rfl, Or.inr fun _ _ => rfl, fun _ _ _ _ => rfl⟩, ?_⟩
  rintro M1 x6 x7 ⟨m, rfl, hm, g1, rfl, g3, g4, g5⟩
  unfold wp_X11_load_B72 wp_X11_load_b142
  dsimp only
  rw [w32n (show n < 2147483648 by omega), w32n (show m < 2147483648 by omega)]
  refine ⟨fun u => ?_, fun u => ?_⟩
  · have : m = n := by omega
    subst this
    exact h m _ M1 (Nat.le_refl _) g1 (Or.inl ⟨rfl, rfl⟩) g3 g4 g5
  rw [hasItem_iff ((g5 _ _ (by omega) (by omega)).trans e2) hz hf]
  have out : outL f z m → Q (-12) M1 := fun o => h m _ M1 hm g1 (Or.inr ⟨by omega, o, rfl⟩) g3 g4 g5
  refine dcf (fun u2 => ?_) (fun u2 => out (by unfold outL; omega))
  rw [hasItems_iff ((g5 _ _ (by omega) (by omega)).trans e2) hz ⟨by omega, by omega⟩ ⟨by omega, by omega⟩]
  refine dct (fun u3 => ?_) (fun u3 => out (by unfold outL; omega))
  obtain ⟨p, rfl⟩ : ∃ p : Nat, f = (p : Int) := ⟨f.toNat, by omega⟩
  rw [rt_sheet j hj, show (p : Int) + 2 * (m : Int) + 1 = ((p + 2 * m + 1 : Nat) : Int) by omega, show (p : Int) + 2 * (m : Int) = ((p + 2 * m : Nat) : Int) by omega, ixn (show p + 2 * m < 2147483648 by omega), ixn (show p + 2 * m + 1 < 2147483648 by omega), g5 (182 + 2 * j) (p + 2 * m) (by omega) (by omega), g5 (182 + 2 * j) (p + 2 * m + 1) (by omega) (by omega)]
  refine ⟨inbn (LN_sheet hj) (by omega), inbn (LN_sheet hj) (by omega), ?_⟩
  have hrow1 := loadN_row hrow it m
  have rng := loadN_range (d := M 3) it m
  have i0 := hI m (by omega)
  rw [show ((p : Int)).toNat = p by omega] at i0
  have es : loadN (M 3) it (m + 1) = ((loadN (M 3) it m).1 + (if 0 ≤ dueA (loadN (M 3) it m).2 (it m).1 (it m).2 then 1 else 0), dueR (loadN (M 3) it m).2 (it m).1 (it m).2) := rfl
  rw [i0] at es
  dsimp only at es
  refine due_cls (hit _ (by omega)) (hit _ (by omega)) (by rw [g3]; exact hrow1) ((g5 _ _ (by decide) (by decide)).trans k21) ((g5 _ _ (by decide) (by decide)).trans k22) (fun M2 f1 f2 f3 => ?_)
  rw [g3] at f1 ⊢
  have ar := dueA_R hrow1 (M (182 + 2 * j) (p + 2 * m)) (M (182 + 2 * j) (p + 2 * m + 1))
  have nout : ∀ i, i < m + 1 → ¬ outL (p : Int) z i := fun i hi => by
    by_cases q : i = m
    · subst q; unfold outL; omega
    · exact g1 i (by omega)
  have st : M2 0 5 = 1 ∨ ∀ k c, M2 k c = M k c := by
    rcases f2 with q | q
    · exact Or.inl q
    · rcases g4 with q2 | q2
      · exact Or.inl ((q 0 5).trans q2)
      · exact Or.inr fun k c => (q k c).trans (q2 k c)
  have fr : ∀ k c, k ≠ 3 → ¬ (k = 0 ∧ c = 5) → M2 k c = M k c := fun k c a b => (f3 k c a b).trans (g5 k c a b)
  generalize hA : dueA (loadN (M 3) it m).2 (M (182 + 2 * j) (p + 2 * m)) (M (182 + 2 * j) (p + 2 * m + 1)) = A at *
  rw [w32_id (z := A) (by omega) (by omega)]
  refine ⟨fun u4 => ⟨⟨m + 1, by omega, by omega, nout, ?_, ?_, st, fr⟩, by omega⟩, fun u4 => ⟨⟨m + 1, by omega, by omega, nout, ?_, ?_, st, fr⟩, by omega⟩⟩
  · rw [es, if_neg (by omega), Int.add_zero]
  · rw [es]; exact f1
  · rw [es, if_pos (by omega)]
  · rw [es]; exact f1
theorem load_ref {M : Mem} {Q : Int → Mem → Prop} {j n : Nat} {f z : Int} {it : Nat → Int × Int} (hj : j < 4) (hn : n ≤ 5) (hf : R32 f) (e2 : M 210 j = z) (hz : 0 ≤ z ∧ z ≤ 40) (hit : ∀ i, i < 40 → R32 (M 211 (40 * j + i))) (hrow : DRow (M 190)) (hF : Finds M) (hI : ∀ k, it k = (M 211 (40 * j + (f.toNat + 2 * k)), M 211 (40 * j + (f.toNat + 2 * k + 1)))) {m : Nat} (hm : m ≤ n) (hno : ∀ i, i < m → ¬ outL f z i) (hend : m = n ∨ (m < n ∧ outL f z m))
    (h : ∀ (r : Int) (M' : Mem), (m = n → r = (loadN (M 190) it m).1) → (m < n → r = -12) → M' 190 = (loadN (M 190) it m).2 → Finds M' → (∀ k c, k ≠ 190 → k ≠ 194 → ¬ (k = 189 ∧ c = 5) → M' k c = M k c) → Q r M') : wp_X12_load_L71 189 Q M (j : Int) f (n : Int) 0 0 := by
  refine ⟨fun M' x5 x6 => ∃ q : Nat, x6 = (q : Int) ∧ q ≤ m ∧ x5 = (loadN (M 190) it q).1 ∧ M' 190 = (loadN (M 190) it q).2 ∧ Finds M' ∧ (∀ k c, k ≠ 190 → k ≠ 194 → ¬ (k = 189 ∧ c = 5) → M' k c = M k c), fun _ _ x6 => ((n : Int) - x6).toNat, ⟨0, rfl, Nat.zero_le _, rfl, rfl, hF, fun _ _ _ _ _ => rfl⟩, ?_⟩
  rintro M1 x5 x6 ⟨q, rfl, hq, rfl, g3, g4, g5⟩
  unfold wp_X12_load_B71 wp_X12_load_b151
  dsimp only
  rw [w32n (show n < 2147483648 by omega), w32n (show q < 2147483648 by omega), w32_R hf]
  refine ⟨fun u => ?_, fun u => ?_⟩
  · have : q = m := by omega
    subst this
    exact h _ M1 (fun _ => rfl) (fun z => by omega) g3 g4 g5
  rintro v88 rfl
  have hf1 := hf.1
  have hf2 := hf.2
  rw [rtv_189_32, ixn (show j < 2147483648 by omega), g5 210 j (by decide) (by decide) (by omega), e2, w32_id (z := z) (by omega) (by omega), w64_id (z := f + 2 * (q : Int)) (by omega) (by omega), w64_id (z := f + 2 * (q : Int) + 1) (by omega) (by omega), w64_id (z := z) (by omega) (by omega), vl_0]
  have out : outL f z q → Q (-12) M1 := fun o => by
    have : q = m := by
      rcases Nat.lt_or_ge q m with x | x
      · exact absurd o (hno q x)
      · omega
    subst this
    exact h _ M1 (fun z => by omega) (fun _ => rfl) g3 g4 g5
  have f0 : 0 < q → 0 ≤ f := fun x => by
    have := hno 0 (by omega)
    unfold outL at this
    omega
  refine ⟨fun u2 => out (by unfold outL; omega), fun u2 => ⟨inbn LN_210 hj, fun u3 => ?_, fun u3 => out (by unfold outL; omega)⟩⟩
  have f00 : 0 ≤ f := by
    rcases Nat.eq_zero_or_pos q with x | x
    · subst x; omega
    · exact f0 x
  obtain ⟨p, rfl⟩ : ∃ p : Nat, f = (p : Int) := ⟨f.toNat, by omega⟩
  have hqm : q < m := by
    rcases hend with x | ⟨x, y⟩
    · omega
    · rcases Nat.lt_or_ge q m with z2 | z2
      · exact z2
      · have : q = m := by omega
        subst this
        unfold outL at y
        omega
  rw [rtv_189_33, show (40 : Int) * (j : Int) + ((p : Int) + 2 * (q : Int)) + 1 = ((40 * j + (p + 2 * q + 1) : Nat) : Int) by omega, show (40 : Int) * (j : Int) + ((p : Int) + 2 * (q : Int)) = ((40 * j + (p + 2 * q) : Nat) : Int) by omega, ixn (show 40 * j + (p + 2 * q) < 2147483648 by omega), ixn (show 40 * j + (p + 2 * q + 1) < 2147483648 by omega), g5 211 _ (by decide) (by decide) (by omega), g5 211 _ (by decide) (by decide) (by omega)]
  refine ⟨inbn LN_211 (by omega), inbn LN_211 (by omega), ?_⟩
  have hrow1 := loadN_row hrow it q
  have i0 := hI q
  rw [show ((p : Int)).toNat = p by omega] at i0
  have es : loadN (M 190) it (q + 1) = ((loadN (M 190) it q).1 + (if 0 ≤ dueA (loadN (M 190) it q).2 (it q).1 (it q).2 then 1 else 0), dueR (loadN (M 190) it q).2 (it q).1 (it q).2) := rfl
  rw [i0] at es
  dsimp only at es
  refine due_ref (hit _ (by omega)) (hit _ (by omega)) (by rw [g3]; exact hrow1) g4 (fun M2 f1 f2 f3 => ?_)
  rw [g3] at f1 ⊢
  have ar := dueA_R hrow1 (M 211 (40 * j + (p + 2 * q))) (M 211 (40 * j + (p + 2 * q + 1)))
  have fr : ∀ k c, k ≠ 190 → k ≠ 194 → ¬ (k = 189 ∧ c = 5) → M2 k c = M k c := fun k c a b d => (f3 k c a b d).trans (g5 k c a b d)
  generalize hA : dueA (loadN (M 190) it q).2 (M 211 (40 * j + (p + 2 * q))) (M 211 (40 * j + (p + 2 * q + 1))) = A at *
  rw [w32_id (z := A) (by omega) (by omega)]
  refine ⟨fun u4 => ⟨⟨q + 1, by omega, by omega, ?_, ?_, f2, fr⟩, by omega⟩, fun u4 => ⟨⟨q + 1, by omega, by omega, ?_, ?_, f2, fr⟩, by omega⟩⟩
  · rw [es, if_neg (by omega), Int.add_zero]
  · rw [es]; exact f1
  · rw [es, if_pos (by omega)]
  · rw [es]; exact f1
theorem step_31 {DK : Mem → Prop} (hD : KeptH DK) : Step_31 (Inv DK) := by
  intro M hI a1 a2 a3 a4 h1 h2 h3 h4
  obtain ⟨hB, hK, hR, hIm, hS, hN, hC⟩ := id hI
  have hd3 : DRow (M 3) := by
    have agr : ∀ j, j ≤ 60 → M 3 j = M 190 j := fun j hj => (InvB_R hB hj).1
    refine ⟨fun j hj => ?_, ?_, ?_⟩
    · rw [agr j hj]; exact ⟨(InvB_R hB hj).2.1, (InvB_R hB hj).2.2.1⟩
    · rw [agr 0 (by omega)]; exact hB.2.1.1
    · rw [show cnt (M 3) 60 = cnt (M 190) 60 from cntP_congr fun k _ hk => by unfold pos; rw [agr k hk]]; exact hB.2.2.1
  have hd190 : DRow (M 190) := ⟨fun j hj => ⟨(InvB_R hB hj).2.1, (InvB_R hB hj).2.2.1⟩, hB.2.1.1, hB.2.2.1⟩
  have hF : Finds M := ⟨hR.1, hR.2.1⟩
  -- the reference's tests
  have ref : ∀ (M1 : Mem) (P : Int → Mem → Prop), (∀ k c, 189 ≤ k → M1 k c = M k c) →
      (¬ ((0 ≤ a1 ∧ a1 ≤ 3) ∧ (0 ≤ a2 ∧ a2 ≤ 1) ∧ (0 ≤ a4 ∧ a4 ≤ 5)) → P (-2) M1) →
      (∀ j : Nat, a1 = (j : Int) → M 209 j ≠ 0 → M 209 j ≠ a2 + 1 → P (-13) M1) →
      (∀ j : Nat, a1 = (j : Int) → M 209 j = 0 → P (-11) M1) →
      (∀ j : Nat, a1 = (j : Int) → j < 4 → (0 ≤ a2 ∧ a2 ≤ 1) → (0 ≤ a4 ∧ a4 ≤ 5) → M 209 j ≠ 0 → M 209 j = a2 + 1 → wp_X12_load_L71 189 P M1 (j : Int) a3 a4 0 0) →
      wp_X12_load 189 a1 a2 a3 a4 M1 P := by
    intro M1 P e9 c1 c2 c3 c4
    unfold wp_X12_load wp_X12_isSheet
    rw [X12_within_iff, wl_0, wl_3, w32_R h1]
    refine dcf (fun z1 => ?_) (fun z1 => c1 (fun z => z1 z.1))
    rw [X12_within_iff, wl_0, wl_1, w32_R h2]
    refine dcf (fun z2 => ?_) (fun z2 => c1 (fun z => z2 z.2.1))
    rw [X12_within_iff, wl_0, wl_5, w32_R h4]
    refine dct (fun z3 => ?_) (fun z3 => c1 (fun z => z3 z.2.2))
    obtain ⟨j, rfl⟩ : ∃ j : Nat, a1 = (j : Int) := ⟨a1.toNat, by omega⟩
    have hj : j < 4 := by omega
    obtain ⟨w1, w2, w3, w4, w5, w6, w7, w8'⟩ := InvS_j hI hj
    unfold wp_X12_load_b53
    rw [rtv_189_31, ixn (show j < 2147483648 by omega), e9 209 j (by decide), w32_id (z := M 209 j) (by omega) (by omega), w32_id (z := a2 + 1) (by omega) (by omega)]
    exact ⟨inbn LN_209 hj, fun u => ⟨inbn LN_209 hj, fun u2 => absurd u u2, fun _ => c3 j rfl u⟩, fun u => ⟨inbn LN_209 hj, fun u2 => ⟨inbn LN_209 hj, fun _ => c4 j rfl hj z2 z3 u u2, fun u3 => absurd u (by omega)⟩, fun u2 => c2 j rfl u u2⟩⟩
  have bad : ¬ ((0 ≤ a1 ∧ a1 ≤ 3) ∧ (0 ≤ a2 ∧ a2 ≤ 1) ∧ (0 ≤ a4 ∧ a4 ≤ 5)) → wp_X12_load 189 a1 a2 a3 a4 M (fun r2 M2 => w32 (-2) = w32 r2 ∧ Inv DK M2) := by
    intro z
    unfold wp_X12_load wp_X12_isSheet
    rw [X12_within_iff, wl_0, wl_3, w32_R h1]
    refine dcf (fun z1 => ?_) (fun _ => ⟨rfl, hI⟩)
    rw [X12_within_iff, wl_0, wl_1, w32_R h2]
    refine dcf (fun z2 => ?_) (fun _ => ⟨rfl, hI⟩)
    rw [X12_within_iff, wl_0, wl_5, w32_R h4]
    exact dct (fun z3 => absurd ⟨z1, z2, z3⟩ z) (fun _ => ⟨rfl, hI⟩)
  unfold wp_X11_load wp_X11_isSheet
  rw [X11_within_iff, wl_0, wl_3, w32_R h1]
  refine dcf (fun e1 => ?_) (fun e1 => bad (fun z => e1 z.1))
  rw [X11_isSort_iff, w32_R h2]
  refine dcf (fun e2 => ?_) (fun e2 => bad (fun z => e2 (by omega)))
  rw [X11_within_iff, wl_0, wl_5, w32_R h4]
  refine dct (fun e3 => ?_) (fun e3 => bad (fun z => e3 z.2.2))
  obtain ⟨j, rfl⟩ : ∃ j : Nat, a1 = (j : Int) := ⟨a1.toNat, by omega⟩
  obtain ⟨n, rfl⟩ : ∃ n : Nat, a4 = (n : Int) := ⟨a4.toNat, by omega⟩
  have hj : j < 4 := by omega
  have jj : ∀ i : Nat, (j : Int) = (i : Int) → i = j := fun i hi => by omega
  obtain ⟨w1, w2, w3, w4, w5, w6, w7, w8'⟩ := InvS_j hI hj
  unfold wp_X11_load_b55
  rw [rtv_0_17, ixn (show j < 2147483648 by omega), rt_180 j hj]
  refine ⟨inbn LN_180 hj, ?_⟩
  rw [isMissing_iff w1 ⟨w2, w3⟩]
  refine dct (fun u => ?_) (fun u => ?_)
  · rw [isMissing_iff w1 ⟨w2, w3⟩]
    refine dcf (fun _ => ?_) (fun z => absurd u z)
    exact ref M _ (fun _ _ _ => rfl) (fun z => absurd ⟨e1, by omega, e3⟩ z) (fun i hi q => by rw [jj i hi] at q; exact absurd u q) (fun _ _ _ => ⟨rfl, hI⟩) (fun i hi _ _ _ q => by rw [jj i hi] at q; exact absurd u q)
  rw [w1, w32_id (z := M 209 j - 1) (by omega) (by omega)]
  refine ⟨fun u2 => ?_, fun u2 => ref M _ (fun _ _ _ => rfl) (fun z => absurd ⟨e1, by omega, e3⟩ z) (fun _ _ _ _ => ⟨rfl, hI⟩) (fun i hi q => by rw [jj i hi] at q; exact absurd q u) (fun i hi _ _ _ _ q => by rw [jj i hi] at q; exact absurd (show M 209 j - 1 = a2 by omega) u2)⟩
  rw [isMissing_iff w1 ⟨w2, w3⟩]
  refine dcf (fun z => absurd z u) (fun _ => ?_)
  refine load_cls (it := fun k => (M 211 (40 * j + (a3.toNat + 2 * k)), M 211 (40 * j + (a3.toNat + 2 * k + 1)))) hj (by omega) h3 w4 ⟨w5, w6⟩ (fun i hi => ?_) hd3 hK.1 hK.2.1 (fun k hk => ?_) ?_
  · rw [(w8' i hi).1]; exact (w8' i hi).2
  · rw [(w8' _ (show a3.toNat + 2 * k < 40 by omega)).1, (w8' _ hk).1]
  intro m r M1 hm hno hend g1 g2 g3
  have row1 : ∀ k, 1 ≤ k → k ≠ 3 → M1 k = M k := fun k a b => funext fun c => g3 k c b (by omega)
  have agr := loadN_agr (D := M 3) (d := M 190) (fun i hi => (InvB_R hB hi).1) (fun k => (M 211 (40 * j + (a3.toNat + 2 * k)), M 211 (40 * j + (a3.toNat + 2 * k + 1)))) m
  have hrow2 := loadN_row hd190 (fun k => (M 211 (40 * j + (a3.toNat + 2 * k)), M 211 (40 * j + (a3.toNat + 2 * k + 1)))) m
  have hhigh := fun (i : Nat) (hi : 60 < i) => loadN_high (d := M 190) (fun k => (M 211 (40 * j + (a3.toNat + 2 * k)), M 211 (40 * j + (a3.toNat + 2 * k + 1)))) hi m
  refine ref M1 _ (fun k c hk => g3 k c (by omega) (by omega)) (fun z => absurd ⟨e1, by omega, e3⟩ z) (fun i hi _ q => by rw [jj i hi] at q; exact absurd (show M 209 j = a2 + 1 by omega) q) (fun i hi q => by rw [jj i hi] at q; exact absurd q u) (fun i hi _ _ _ _ _ => ?_)
  have : i = j := jj i hi
  subst this
  refine load_ref (it := fun k => (M 211 (40 * i + (a3.toNat + 2 * k)), M 211 (40 * i + (a3.toNat + 2 * k + 1)))) (z := M 210 i) hj (by omega) h3 (by rw [row1 210 (by omega) (by omega)]) ⟨w5, w6⟩ (fun c hc => ?_) ?_ ?_ (fun k => ?_) hm hno (by rcases hend with ⟨x, _⟩ | ⟨x, y, _⟩; exact Or.inl x; exact Or.inr ⟨x, y⟩) ?_
  · rw [row1 211 (by omega) (by omega)]; exact (w8' c hc).2
  · rw [row1 190 (by omega) (by omega)]; exact hd190
  · unfold Finds
    rw [row1 189 (by omega) (by omega), row1 190 (by omega) (by omega), row1 194 (by omega) (by omega)]
    exact hF
  · rw [row1 211 (by omega) (by omega)]
  intro r2 M2 x1 x2 x3 x4 x5
  rw [row1 190 (by omega) (by omega)] at x1 x3
  generalize (fun k : Nat => (M 211 (40 * i + (a3.toNat + 2 * k)), M 211 (40 * i + (a3.toNat + 2 * k + 1)))) = it at *
  have e2' : ∀ k c, k ≠ 3 → ¬ (k = 0 ∧ c = 5) → k ≠ 190 → k ≠ 194 → ¬ (k = 189 ∧ c = 5) → M2 k c = M k c := fun k c a b d e f => (x5 k c d e f).trans (g3 k c a b)
  have row2 : ∀ k, k ≠ 0 → k ≠ 3 → k ≠ 189 → k ≠ 190 → k ≠ 194 → M2 k = M k := fun k a b c d e => funext fun y => e2' k y b (by omega) d e (by omega)
  have m3 : M2 3 = (loadN (M 3) it m).2 := by
    rw [← g1]
    exact funext fun c => x5 3 c (by decide) (by decide) (by omega)
  have n3 : M2 189 3 = M 189 3 := e2' 189 3 (by omega) (by omega) (by omega) (by omega) (by omega)
  refine ⟨?_, Inv_chg hI ?_ x4 ?_ ?_⟩
  · rcases hend with ⟨y1, y2⟩ | ⟨y1, y2, y3⟩
    · rw [y2, x1 y1, agr.1]
    · rw [y3, x2 y1]
  · unfold InvB at *
    rw [m3, x3, row2 5 (by omega) (by omega) (by omega) (by omega) (by omega), row2 7 (by omega) (by omega) (by omega) (by omega) (by omega), row2 1 (by omega) (by omega) (by omega) (by omega) (by omega), row2 191 (by omega) (by omega) (by omega) (by omega) (by omega), row2 192 (by omega) (by omega) (by omega) (by omega) (by omega), row2 193 (by omega) (by omega) (by omega) (by omega) (by omega), n3]
    obtain ⟨q1, q2, q3, q4, q5, q6, q7, q8, q9⟩ := hB
    refine ⟨fun c hc => ⟨agr.2 c hc, (hrow2.1 c hc).1, (hrow2.1 c hc).2, (q1 c hc).2.2.2⟩, ⟨hrow2.2.1, q2.2⟩, hrow2.2.2, q4, q5, q6, q7, q8, fun b hb => ?_⟩
    have := q9 b hb
    dsimp only at this ⊢
    rw [row2 (9 + b) (by omega) (by omega) (by omega) (by omega) (by omega)]
    exact this
  · intro q
    rcases g2 with y | y
    · have : M2 0 5 = 1 := (x5 0 5 (by decide) (by decide) (by decide)).trans y
      unfold fb at q
      rw [this] at q
      exact absurd q (by decide)
    · have d190 : M2 190 = M 190 := by
        rw [x3]
        funext c
        by_cases hc : c ≤ 60
        · rw [← agr.2 c hc, ← g1, y, (InvB_R hB hc).1]
        · exact hhigh c (by omega)
      have q' : fb M 0 5 = false := by
        rw [← q]
        exact (fb_eq ((x5 0 5 (by decide) (by decide) (by decide)).trans (y 0 5))).symm
      obtain ⟨c1, c2⟩ := hC q'
      have zrow : ∀ k, k ≠ 189 → k ≠ 194 → k ≠ 3 → M2 k = M k := fun k a b e => by
        by_cases z : k = 190
        · rw [z]; exact d190
        · exact funext fun c => (x5 k c z b (by omega)).trans (y k c)
      refine ⟨?_, fun q2 => hD M M2 (fun k c z => ?_) (c2 ?_)⟩
      · have hn := hB.2.2.2.2.2.2.2.1
        unfold SceneOK at *
        obtain ⟨v1, v2, v3, v4⟩ := c1
        rw [d190, zrow 191 (by omega) (by omega) (by omega), zrow 192 (by omega) (by omega) (by omega), zrow 193 (by omega) (by omega) (by omega), n3, zrow 27 (by omega) (by omega) (by omega), zrow (27 + 1) (by omega) (by omega) (by omega), zrow (27 + 2) (by omega) (by omega) (by omega), zrow (27 + 3) (by omega) (by omega) (by omega), zrow (27 + 4) (by omega) (by omega) (by omega), zrow (27 + 5) (by omega) (by omega) (by omega), zrow (27 + 6) (by omega) (by omega) (by omega), zrow (27 + 19) (by omega) (by omega) (by omega), zrow (27 + 20) (by omega) (by omega) (by omega)]
        refine ⟨v1, v2, v3, fun b hb => ?_⟩
        have hb5 : b < 5 := by omega
        rw [zrow (27 + 8 + b) (by omega) (by omega) (by omega), zrow (27 + 14 + b) (by omega) (by omega) (by omega)]
        exact v4 b hb
      · by_cases z3 : k = 189
        · subst z3
          have : c = 3 := by
            unfold keepH at z
            simp at z
            exact z
          subst this
          exact n3
        · have : k ≠ 194 ∧ k ≠ 3 := by
            unfold keepH at z
            simp only [Bool.or_eq_true, Bool.and_eq_true, decide_eq_true_eq] at z
            omega
          rw [zrow k z3 this.1 this.2]
      · rw [← q2]
        exact (fb_eq ((x5 0 13 (by decide) (by decide) (by decide)).trans (y 0 13))).symm
  · intro k c z
    unfold bkc at z
    have z' : k ≠ 3 ∧ ¬ (k = 0 ∧ c = 5) ∧ k ≠ 190 ∧ k ≠ 194 ∧ ¬ (k = 189 ∧ c = 5) := by
      refine ⟨fun q => ?_, fun q => ?_, fun q => ?_, fun q => ?_, fun q => ?_⟩
      · subst q; simp at z
      · obtain ⟨rfl, rfl⟩ := q; simp at z
      · subst q; simp at z
      · subst q; simp at z
      · obtain ⟨rfl, rfl⟩ := q; simp at z
    exact e2' k c z'.1 z'.2.1 z'.2.2.1 z'.2.2.2.1 z'.2.2.2.2
