theorem rproofOf_ok {n H : Nat} {on : Nat → Bool} {key : Nat → Nat} (K : KeyOK n H on key) {D : QD} (w : WFQ n on D) (Nq : NumQ n on D) {M : Mem} (hR : RefOK M noY) (hf : fb M 189 8 = false) (hM : ∀ M' : Mem, FrF M M' → DicR n H key M' D) {i : Nat} (hi : i < rungs (M 190)) {Q : Mem → Prop} (h : ∀ M' : Mem, RF M' (pvS n (rungs (M 190)) (rrS (M 190) (M 191) noY) D (rungs (M 190) - 1 - i)) → FrF M M' → Q M') : wp_X12_proofOf 189 (i : Int) M Q := by
  have o9 := K.2.2.2.2.2
  obtain ⟨N, hNe⟩ : ∃ N, N = rungs (M 190) := ⟨_, rfl⟩
  have hN : N ≤ 5 := by rw [hNe]; exact hR.2.1
  have h5 : M 189 5 = (N : Int) := by rw [hNe]; exact hR.2.2.1
  have hrr : ∀ c, c < N → 0 ≤ rrS (M 190) (M 191) noY c ∧ rrS (M 190) (M 191) noY c ≤ 9 := fun c hc => RefOK_rr hR (by omega)
  obtain ⟨rr, hrE⟩ : ∃ rr, rr = rrS (M 190) (M 191) noY := ⟨_, rfl⟩
  rw [← hrE] at hrr
  rw [← hrE, ← hNe] at h
  unfold wp_X12_proofOf
  rw [h5]
  refine ⟨fun M' x2 x4 x6 => ∃ t : Nat, x6 = (N : Int) - 1 - (t : Int) ∧ t ≤ N - i ∧ FrF M M' ∧ ((t = 0 ∧ fb M' 189 8 = false) ∨ ∃ t', t = t' + 1 ∧ ((fb M' 189 8 = true ∧ pvS n N rr D t' = none) ∨ (fb M' 189 8 = false ∧ pvS n N rr D t' = some (x2, x4)))), fun _ _ _ x6 => (x6 + 1).toNat, ⟨0, by omega, Nat.zero_le _, FrF_refl M, Or.inl ⟨rfl, hf⟩⟩, ?_⟩
  rintro M1 x2 x4 x6 ⟨t, rfl, ht, f1, f2⟩
  unfold wp_X12_proofOf_B13
  dsimp only
  have hi2 : i < N := by omega
  have c5 : ∀ M' : Mem, FrF M M' → M' 189 5 = (N : Int) := fun M' q => by rw [q 189 5 (by omega)]; exact h5
  rw [w32_id (z := (N : Int) - 1 - (t : Int)) (by clear f2; omega) (by clear f2; omega), w32n (show i < 2147483648 by clear f2; omega)]
  have fr27 : FrF M (st2 (st2 M1 189 9 x2) 189 10 x4) := fun k c q => by rw [st2_n _ _ (by omega), st2_n _ _ (by omega)]; exact f1 k c q
  have fe : fb (st2 (st2 M1 189 9 x2) 189 10 x4) 189 8 = fb M1 189 8 := by rw [fb_n _ _ (by omega), fb_n _ _ (by omega)]
  refine ⟨fun u => ?_, fun u => ?_⟩
  · rintro M2 rfl M3 rfl
    obtain ⟨s, hs⟩ : ∃ s, N - i = s + 1 := ⟨N - i - 1, by omega⟩
    have : t = s + 1 := by clear f2; omega
    subst this
    rw [show N - 1 - i = s by omega] at h
    refine h _ ?_ fr27
    rcases f2 with ⟨z, -⟩ | ⟨t', e, z⟩
    · omega
    · have : t' = s := by omega
      subst this
      rcases z with ⟨z1, z2⟩ | ⟨z1, z2⟩
      · rw [z2]
        show fb _ 189 8 = true
        rw [fe]; exact z1
      · rw [z2]
        exact ⟨by rw [fe]; exact z1, by rw [st2_n _ _ (by omega), st2_s], st2_s _ _ _ _⟩
  obtain ⟨k, hk⟩ : ∃ k : Nat, (N : Int) - 1 - (t : Int) = (k : Int) := ⟨N - 1 - t, by clear f2; omega⟩
  have hk2 : k = N - 1 - t := by clear f2; omega
  have e20 : (20 : Int) + (k : Int) = ((20 + k : Nat) : Int) := by clear f2; omega
  have e10 : (10 : Int) + (k : Int) = ((10 + k : Nat) : Int) := by clear f2; omega
  rintro M2 rfl M3 rfl
  rw [hk, c5 _ fr27, w32_id (z := (N : Int) - 1) (by clear f2; omega) (by clear f2; omega)]
  unfold wp_X12_proofOf_b50 wp_X12_proofOf_b151
  rw [e20, e10]
  rcases f2 with ⟨rfl, z⟩ | ⟨t', rfl, z⟩
  · refine ⟨fun _ => ?_, fun v => absurd v (by omega)⟩
    refine ratio_ok K w Nq (by omega) (fun M' q => hM M' (FrF_trans fr27 q)) (fun M4 a1 a2 a3 => ?_)
    have a3 := a3 (by rw [fe]; exact z)
    have fr4 := FrF_trans fr27 a1
    rw [c5 _ fr4, w32_id (z := (N : Int) - 1) (by omega) (by omega), w32n (show k < 2147483648 by omega)]
    refine ⟨fun _ => ⟨⟨1, by omega, by omega, fr4, Or.inr ⟨0, rfl, ?_⟩⟩, by omega⟩, fun v => absurd v (by omega)⟩
    have : pvS n N rr D 0 = ratQ n D k := by rw [show k = N - 1 by omega]; rfl
    rw [this, RF_flag a3]
    cases q : ratQ n D k with
    | none => exact Or.inl ⟨rfl, rfl⟩
    | some y =>
      rw [q] at a3
      exact Or.inr ⟨rfl, by rw [a3.2.1, a3.2.2]⟩
  · refine ⟨fun v => absurd v (by clear z; omega), fun _ => ?_⟩
    have e1 : (k : Int) + 1 = ((k + 1 : Nat) : Int) := by clear z; omega
    have kN : k + 1 < N := by clear z; omega
    obtain ⟨r1, r2, r3, -⟩ := FrF_ref hR fr27
    have qF := pvS_Fr (n := n) (rr := rr) w o9 hrr t' (by clear z; omega)
    have RF27 : RF (st2 (st2 M1 189 9 x2) 189 10 x4) (pvS n N rr D t') := by
      rcases z with ⟨z1, z2⟩ | ⟨z1, z2⟩
      · rw [z2]
        show fb _ 189 8 = true
        rw [fe]; exact z1
      · rw [z2]
        exact ⟨by rw [fe]; exact z1, by rw [st2_n _ _ (by omega), st2_s], st2_s _ _ _ _⟩
    rw [e1]
    refine byFactor_ok r1 (by rw [r2, ← hNe]; exact kN) qF RF27 (fun M4 a1 a2 => ?_)
    rw [r2, r3, ← hrE] at a1
    have a1 : RF M4 (ob mulq (pvS n N rr D t') (fac (rr (k + 1)))) := a1
    have gF := ob_mul_Fr qF (fac_ok (hrr (k + 1) kN)).1
    have fr4 := FrF_trans fr27 a2
    refine ratio_ok K w Nq (by clear z; omega) (fun M' q => hM M' (FrF_trans fr4 q)) (fun M5 b1 b2 b3 => ?_)
    have fr5 := FrF_trans fr4 b1
    rw [c5 _ fr5, w32_id (z := (N : Int) - 1) (by clear z; omega) (by clear z; omega), w32n (show k < 2147483648 by clear z; omega)]
    have ep : pvS n N rr D (t' + 1) = ob addq (ob mulq (pvS n N rr D t') (fac (rr (k + 1)))) (ratQ n D k) := by
      show ob addq (ob mulq (pvS n N rr D t') (fac (rr (N - 1 - t')))) (ratQ n D (N - 2 - t')) = _
      rw [show N - 1 - t' = k + 1 by clear z; omega, show N - 2 - t' = k by clear z; omega]
    refine ⟨fun v => absurd v (by clear z; omega), fun _ => ?_⟩
    have fin : ∀ M6 : Mem, FrF M5 M6 → RF M6 (pvS n N rr D (t' + 1)) → (∃ t : Nat, (k : Int) + (-1) = (N : Int) - 1 - (t : Int) ∧ t ≤ N - i ∧ FrF M M6 ∧ ((t = 0 ∧ fb M6 189 8 = false) ∨ ∃ t', t = t' + 1 ∧ ((fb M6 189 8 = true ∧ pvS n N rr D t' = none) ∨ (fb M6 189 8 = false ∧ pvS n N rr D t' = some (M6 189 9, M6 189 10))))) ∧ ((k : Int) + (-1) + 1).toNat < ((k : Int) + 1).toNat := fun M6 c1 c2 => by
      refine ⟨⟨t' + 2, by clear z; omega, by clear z; omega, FrF_trans fr5 c1, Or.inr ⟨t' + 1, rfl, ?_⟩⟩, by clear z; omega⟩
      rw [RF_flag c2]
      cases q : pvS n N rr D (t' + 1) with
      | none => exact Or.inl ⟨rfl, rfl⟩
      | some y =>
        rw [q] at c2
        exact Or.inr ⟨rfl, by rw [c2.2.1, c2.2.2]⟩
    have rF := ratQ_Fr w o9 k
    cases q1 : ob mulq (pvS n N rr D t') (fac (rr (k + 1))) with
    | none =>
      rw [q1] at a1 ep
      exact rsum_great (b2 (RF_flag a1)) (fun M6 c1 c2 => fin M6 c2 (by rw [ep]; exact c1))
    | some y =>
      rw [q1] at a1 ep gF
      have b3 := b3 a1.1
      cases q2 : ratQ n D k with
      | none =>
        rw [q2] at b3 ep
        exact rsum_great (RF_flag b3) (fun M6 c1 c2 => fin M6 c2 (by rw [ep]; exact c1))
      | some x =>
        rw [q2] at b3 ep rF
        rw [b3.2.1, b3.2.2, a1.2.1, a1.2.2]
        refine rsum_ok (rF x rfl) (gF y rfl) b3.1 (fun M6 c1 c2 => fin M6 c2 ?_)
        rw [ep]
        show RF M6 (addq y x)
        rw [addq_comm]
        exact c1
