theorem ref_proof {M : Mem} (hI : Inv DKs M) {i : Nat} {a2 a3 : Int} (h1 : R32 (i : Int)) (h2 : R32 a2) (h3 : R32 a3) (hi : i < rungs (M 190)) (hp2 : 0 ≤ a2 ∧ a2 ≤ 3) (hp3 : 0 ≤ a3 ∧ a3 ≤ 1) {m : Nat} {c : Int} (hE : EndQ (nMq M) (onq M) (D0q M) m c) {r : Int} (hr : 0 ≤ endS m c → ∃ q, r = partq q a3 ∧ (a2 = 0 → IsAmt (onq M) (seqS (nMq M) (onq M) (D0q M) m) (10 + i) q) ∧ (a2 = 1 → q = prUp (seqS (nMq M) (onq M) (D0q M) m) (10 + i) (nMq M)) ∧ (a2 = 2 → q = prUp (seqS (nMq M) (onq M) (D0q M) m) (20 + i) (nMq M)) ∧ (a2 = 3 → q = pvS (nMq M) (rungs (M 190)) (rMq M) (seqS (nMq M) (onq M) (D0q M) m) (rungs (M 190) - 1 - i))) (hr2 : ¬ 0 ≤ endS m c → r = -9223372036854775808) : wp_X12_proof 189 (i : Int) a2 a3 M (fun r2 M2 => w64 r = w64 r2 ∧ Inv DKs M2) := by
  have g := End_good hI hE
  have N := GoodQ_num g
  have w := g.1
  have eb := endS_R hE
  have hR := Inv_RefOK hI
  have hN5 := hR.2.1
  have i5 : i < 5 := Nat.lt_of_lt_of_le hi hN5
  unfold wp_X12_proof
  rw [isRung_iff hR.2.2.1 hR.2.1 h1]
  refine dcf (fun _ => ?_) (fun z => absurd ⟨by clear hr; omega, by clear hr; omega⟩ z)
  rw [X12_within_iff, wl_0, wl_3, w32_R h2]
  refine dcf (fun _ => ?_) (fun z => absurd hp2 z)
  rw [X12_within_iff, wl_0, wl_1, w32_R h3]
  refine dcf (fun _ => ?_) (fun z => absurd hp3 z)
  refine X12_solved_ok hI (fun M2 m' c' hE' hF hd => ?_)
  obtain ⟨rfl, rfl⟩ := EndQ_uni hE hE'
  have hI2 := Inv_FrZ DKs_kept hI hF
  rw [w32_id (z := endS m c) (by clear hr; omega) (by clear hr; omega)]
  refine ⟨fun u => ?_, fun u => ⟨by rw [hr2 u], hI2⟩⟩
  obtain ⟨H, key, K, hD, hf⟩ := hd u
  obtain ⟨q, rq, q0, q1, q2, q3⟩ := hr u
  have fin : ∀ M3 : Mem, FrF M2 M3 → RF M3 q → wp_X12_proof_b75 189 (fun r2 M2 => w64 r = w64 r2 ∧ Inv DKs M2) M3 a3 := fun M3 f3 g3 => by
    unfold wp_X12_proof_b75
    exact rpart_ok h3 g3 ⟨by rw [rq], Inv_FrZ DKs_kept hI2 (FrZ_F f3)⟩
  have hfA : ∀ M3 : Mem, FrA M2 M3 → fb M3 189 8 = false := fun M3 s => by rw [fb_eq (s 189 8 (by clear hr; omega))]; exact hf
  refine ⟨fun v => ⟨fun v2 => ?_, fun v2 => ?_⟩, fun v => ?_⟩
  · have c2 : a2 = 1 ∨ a2 = 2 := by clear hr; omega
    rcases c2 with rfl | rfl
    · have e : (10 : Int) * 1 + (i : Int) = ((10 + i : Nat) : Int) := by clear hr; omega
      rw [e]
      exact rprice_ok K N hD (by clear hr; omega) (fun M3 s1 s2 => fin M3 (FrA_F s2) (by rw [q1 rfl]; exact RAq_RF s1 (hfA M3 s2)))
    · have e : (10 : Int) * 2 + (i : Int) = ((20 + i : Nat) : Int) := by clear hr; omega
      rw [e]
      exact rprice_ok K N hD (by clear hr; omega) (fun M3 s1 s2 => fin M3 (FrA_F s2) (by rw [q2 rfl]; exact RAq_RF s1 (hfA M3 s2)))
  · obtain ⟨r1, r2, r3, -⟩ := FrZ_ref hR hF
    refine rproofOf_ok K w N r1 hf (fun M' f => DicR_F hD f) (by rw [r2]; exact hi) (fun M3 s1 s2 => fin M3 s2 ?_)
    rw [r2, r3] at s1
    rw [q3 (by clear hr; omega)]
    exact s1
  · have e : (10 : Int) + (i : Int) = ((10 + i : Nat) : Int) := by clear hr; omega
    rw [e]
    refine rbare_ok K N hD (R32_i (by clear hr; omega) (by clear hr; omega)) (fun M3 q' s1 s2 s3 => fin M3 (FrA_F s3) ?_)
    rw [IsAmt_uni N (q0 (by clear hr; omega)) (s1 (10 + i) rfl)]
    exact RAq_RF s2 (hfA M3 s3)
theorem keep_p {k j : Nat} (h : keep k j = true) : k ≠ 86 ∧ ¬ (98 ≤ k ∧ k < 102) := by
  constructor
  · rintro rfl
    cases h
  · rintro ⟨h1, h2⟩
    unfold keep at h
    rw [if_neg (by omega), if_neg (by omega), if_neg (by omega), if_neg (by omega), if_pos (by omega)] at h
    cases h
theorem step_17 : Step_17 (Inv DKs) := by
  intro M hI a1 a2 a3 h1 h2 h3
  unfold wp_X11_proof
  refine look_ok' hI (fun M0 hI0 hS0 _ he0 => ?_)
  have hR := Inv_RefOK hI0
  have hN5 := hR.2.1
  have bad : ¬ ((0 ≤ a1 ∧ a1 < (rungs (M0 190) : Int)) ∧ (0 ≤ a2 ∧ a2 ≤ 3) ∧ (0 ≤ a3 ∧ a3 ≤ 1)) → wp_X12_proof 189 a1 a2 a3 M0 (fun r2 M2 => w64 (-9223372036854775808) = w64 r2 ∧ Inv DKs M2) := by
    intro nz
    unfold wp_X12_proof
    rw [isRung_iff hR.2.2.1 hR.2.1 h1]
    refine dcf (fun z1 => ?_) (fun _ => ⟨rfl, hI0⟩)
    rw [X12_within_iff, wl_0, wl_3, w32_R h2]
    refine dcf (fun z2 => ?_) (fun _ => ⟨rfl, hI0⟩)
    rw [X12_within_iff, wl_0, wl_1, w32_R h3]
    exact dcf (fun z3 => absurd ⟨z1, z2, z3⟩ nz) (fun _ => ⟨rfl, hI0⟩)
  rw [rtv_0_3, hasRung_iff hS0.1 hR.2.1 h1]
  refine dcf (fun z1 => ?_) (fun z => bad (fun w => z w.1))
  rw [X11_within_iff, wl_0, wl_3, w32_R h2]
  refine dcf (fun z2 => ?_) (fun z => bad (fun w => z w.2.1))
  unfold wp_X11_isPart
  rw [X11_within_iff, wl_0, wl_1, w32_R h3]
  refine dct (fun z3 => ?_) (fun z => bad (fun w => z w.2.2))
  obtain ⟨i, rfl, hi⟩ := natOf z1
  have i5 : i < 5 := Nat.lt_of_lt_of_le hi hN5
  refine X11_solve_ok hI0 (fun M1 hI1 hD1 hS1 he => ?_)
  obtain ⟨m, c, H, key, hE, h14, hd⟩ := id hD1
  have eb := endS_R hE
  have g := End_good hI1 hE
  have N := GoodQ_num g
  have hi1 : i < rungs (M1 190) := by rw [he 190 (by decide)]; exact hi
  have e0 : rt 0 12 = 87 ∧ rt 0 11 = 86 := by decide +kernel
  rw [h14, w32_id (z := endS m c) (by omega) (by omega), e0.1, e0.2]
  refine ⟨fun u => ?_, fun u => ref_proof hI1 h1 h2 h3 hi1 z2 z3 hE (fun z => absurd z u) (fun _ => rfl)⟩
  obtain ⟨K, hDc⟩ := hd u
  have e10 : (10 : Int) + (i : Int) = ((10 + i : Nat) : Int) := by omega
  have e20 : (20 : Int) + (i : Int) = ((20 + i : Nat) : Int) := by omega
  have fin : ∀ (M2 : Mem) (q : Q2), FR M2 86 q → (∀ k j, k ≠ 86 → ¬ (98 ≤ k ∧ k < 102) → M2 k j = M1 k j) → (a2 = 0 → IsAmt (onq M1) (seqS (nMq M1) (onq M1) (D0q M1) m) (10 + i) q) → (a2 = 1 → q = prUp (seqS (nMq M1) (onq M1) (D0q M1) m) (10 + i) (nMq M1)) → (a2 = 2 → q = prUp (seqS (nMq M1) (onq M1) (D0q M1) m) (20 + i) (nMq M1)) → (a2 = 3 → q = pvS (nMq M1) (rungs (M1 190)) (rMq M1) (seqS (nMq M1) (onq M1) (D0q M1) m) (rungs (M1 190) - 1 - i)) → wp_X11_proof_b146 0 (fun r M1 => wp_X12_proof 189 (i : Int) a2 a3 M1 (fun r2 M2 => w64 r = w64 r2 ∧ Inv DKs M2)) M2 a3 := by
    intro M2 q t1 t2 c0 c1 c2 c3
    unfold wp_X11_proof_b146
    rw [e0.2]
    refine part_ok h3 t1 ?_
    have row : ∀ k, 189 ≤ k → M2 k = M1 k := fun k hk => funext fun j => t2 k j (by omega) (by omega)
    obtain ⟨d1, d2, d3, d4⟩ := Dq_same row
    refine ref_proof (Inv_same (KeptH_Kept DKs_kept) (fun k j z => t2 k j (keep_p z).1 (keep_p z).2) hI1) h1 h2 h3 (by rw [row 190 (by decide)]; exact hi1) z2 z3 (m := m) (c := c) (by rw [d1, d2, d3]; exact hE) (fun _ => ⟨q, rfl, ?_⟩) (fun z => absurd u z)
    rw [d1, d2, d3, d4, row 190 (by decide)]
    exact ⟨c0, c1, c2, c3⟩
  rw [e10, e20]
  refine ⟨fun v => ?_, fun v => ?_, fun v => ?_, fun v => ?_⟩
  · exact amountOf_ok K N hDc (by omega) (Or.inl (by decide)) (fun M2 q t1 t2 t3 => fin M2 q t2 (fun k j q1 _ => t3 k j q1) (fun _ => t1) (fun z => absurd z (by omega)) (fun z => absurd z (by omega)) (fun z => absurd z (by omega)))
  · exact priceOf_ok K N hDc (by omega) (Or.inl (by decide)) (fun M2 t2 t3 => fin M2 _ t2 (fun k j q1 _ => t3 k j q1) (fun z => absurd z (by omega)) (fun _ => rfl) (fun z => absurd z (by omega)) (fun z => absurd z (by omega)))
  · exact priceOf_ok K N hDc (by omega) (Or.inl (by decide)) (fun M2 t2 t3 => fin M2 _ t2 (fun k j q1 _ => t3 k j q1) (fun z => absurd z (by omega)) (fun z => absurd z (by omega)) (fun _ => rfl) (fun z => absurd z (by omega)))
  · have hg := DatR_of hI1
    obtain ⟨n1, n2⟩ := Inv_n hI1
    have hn : (nMq M1 : Int) = M1 189 3 := by unfold nMq; omega
    obtain ⟨k0, kc⟩ := DatC_of (n := nMq M1) hg.2.1 hn hS1
    exact prove_ok K g.1 N hDc hg.1 k0 (fun j hj => ⟨(hg.2.2.1 j hj).1, (kc j hj).1⟩) hi1 (fun M2 t1 t2 => fin M2 _ t1 t2 (fun z => absurd z (by omega)) (fun z => absurd z (by omega)) (fun z => absurd z (by omega)) (fun _ => rfl))
