theorem RefOK_by {M : Mem} {y : F1} (hR : RefOK M y) {k : Nat} (hk : k ≤ 60) : 0 ≤ rateByS (M 190) (M 191) y k ∧ rateByS (M 190) (M 191) y k ≤ 9 :=
  rateByS_range (d := M 190) (r := M 191) (y := y) hR.2.1 (fun k hk => ⟨(hR.1 k hk).2.2.1, (hR.1 k hk).2.2.2.1⟩) (fun i hi => (hR.2.2.2.2.1 i hi).2) hk
theorem RefOK_pay {M : Mem} {y : F1} (hR : RefOK M y) {b k : Nat} (hb : (b : Int) < M 189 3) (h1 : 1 ≤ k) (hk : k ≤ 60) : 0 ≤ payT (M 193) b (rateByS (M 190) (M 191) y) k ∧ payT (M 193) b (rateByS (M 190) (M 191) y) k ≤ 300 := by
  obtain ⟨w2, w3, w4, w5, w6, w7, w8⟩ := hR.2.2.2.2.2.2.2 b hb
  exact payS_range w2 w4 (by omega) (by omega) w7 h1 (RefOK_by hR hk)
theorem atR_range {C : Nat → Nat} {p : F1} (hp : ∀ k, 1 ≤ k → k ≤ 60 → 0 ≤ p k ∧ p k ≤ 300) (i : Nat) : 0 ≤ atR C p 60 i ∧ atR C p 60 i ≤ 18000 := by
  refine ⟨sumP_nonneg fun k a b => ?_, ?_⟩
  · split
    · exact (hp k a b).1
    · exact Int.le_refl 0
  · have := sumP_le (f := fun k => if C (k - 1) = i then p k else 0) (b := 300) (n := 60) (fun k a b => by
      split
      · exact (hp k a b).2
      · decide)
    unfold atR
    omega
theorem payAt_range {M : Mem} {y : F1} (hR : RefOK M y) {b : Nat} (hb : (b : Int) < M 189 3) (i : Nat) : 0 ≤ payAt (M 190) (M 193) b (rateByS (M 190) (M 191) y) i ∧ payAt (M 190) (M 193) b (rateByS (M 190) (M 191) y) i ≤ 18000 :=
  atR_range (C := cnt (M 190)) (fun _ h1 hk => RefOK_pay hR hb h1 hk) i
theorem sumP_split {f : F1} {m : Nat} : ∀ {n : Nat}, m ≤ n → (∀ k, m < k → k ≤ n → f k = 0) → sumP f n = sumP f m
  | 0, h, _ => by rw [show m = 0 by omega]
  | n + 1, h, h2 => by
    by_cases q : m = n + 1
    · rw [q]
    · unfold sumP
      rw [h2 (n + 1) (by omega) (Nat.le_refl _), sumP_split (n := n) (by omega) (fun k a b => h2 k a (by omega)), Int.add_zero]
      cases m <;> rfl
theorem paysAtRung_gen {M : Mem} {Q : Int → Prop} {b i N : Nat} {C D : Nat → Nat} {p : F1} (hi : i < N) (hN : N ≤ 5) (hD : ∀ i, i < N → M 194 i = (D i : Int) ∧ 1 ≤ D i ∧ D i ≤ 60) (hle : ∀ i k, i < N → 1 ≤ k → (k ≤ D i ↔ C (k - 1) ≤ i)) (hmon : ∀ i j, i < j → j < N → D i < D j) (hp : ∀ k, 1 ≤ k → k ≤ 60 → ∀ P : Int → Prop, P (p k) → wp_X12_paysOn 189 (b : Int) (k : Int) M P) (h : Q (atR C p 60 i)) : wp_X12_paysAtRung 189 (b : Int) (i : Int) M Q := by
  obtain ⟨d1, d2, d3⟩ := hD i hi
  have loop : ∀ m : Nat, m ≤ D i → sumP (fun k => if C (k - 1) = i then p k else 0) m = 0 → (∀ k, 1 ≤ k → k ≤ D i → m < k → C (k - 1) = i) → ∀ x : Int, x = ((m + 1 : Nat) : Int) → wp_X12_paysAtRung_b20 189 Q M x (b : Int) (i : Int) 0 := by
    intro m hm h0 hall x hx
    subst hx
    refine ⟨fun x3 x4 => ∃ k : Nat, x4 = ((k + 1 : Nat) : Int) ∧ m ≤ k ∧ k ≤ D i ∧ x3 = sumP (fun k => if C (k - 1) = i then p k else 0) k, fun _ x4 => (62 - x4).toNat, ⟨m, rfl, Nat.le_refl _, hm, h0.symm⟩, ?_⟩
    rintro x3 x4 ⟨k, rfl, hmk, hk, rfl⟩
    unfold wp_X12_paysAtRung_B22
    dsimp only
    rw [rtv_189_6, ixn (show i < 2147483648 by omega), d1, w32n (show D i < 2147483648 by omega), w32n (show k + 1 < 2147483648 by omega)]
    refine ⟨inbn LN_194 (by omega), fun u => ?_, fun u => hp (k + 1) (by omega) (by omega) _ ⟨⟨k + 1, by omega, by omega, by omega, ?_⟩, by omega⟩⟩
    · have : k = D i := by omega
      subst this
      have e := sumP_split (f := fun k => if C (k - 1) = i then p k else 0) (m := D i) (n := 60) d3 (fun k k1 k2 => by
        have := (hle i k hi (by omega))
        rw [if_neg (by omega)])
      unfold atR at h
      rw [e] at h
      exact h
    · show _ = sumP (fun k => if C (k - 1) = i then p k else 0) k + if C (k + 1 - 1) = i then p (k + 1) else 0
      rw [if_pos (hall (k + 1) (by omega) (by omega) (by omega))]
  unfold wp_X12_paysAtRung
  rw [w32n (show i < 2147483648 by omega)]
  refine ⟨fun u => ?_, fun u => ?_⟩
  · obtain ⟨j, rfl⟩ : ∃ j, i = j + 1 := ⟨i - 1, by omega⟩
    rw [show ((j + 1 : Nat) : Int) - 1 = (j : Int) by omega, rtv_189_6, ixn (show j < 2147483648 by omega)]
    obtain ⟨e1, e2, e3⟩ := hD j (by omega)
    have hlt := hmon j (j + 1) (by omega) hi
    refine ⟨inbn LN_194 (by omega), loop (D j) (by omega) ?_ ?_ _ ?_⟩
    · refine sumP_zero fun k k1 k2 => ?_
      have := hle j k (by omega) k1
      rw [if_neg (by omega)]
    · intro k k1 k2 k3
      have a1 := hle j k (by omega) k1
      have a2 := hle (j + 1) k hi k1
      omega
    · rw [e1]; rfl
  · have : i = 0 := by omega
    subst this
    refine loop 0 (by omega) rfl ?_ _ rfl
    intro k k1 k2 k3
    have a2 := hle 0 k hi k1
    omega
theorem paysAtRung_ok {M : Mem} {y : F1} (hR : RefOK M y) {Q : Int → Prop} {b i : Nat} (hb : (b : Int) < M 189 3) (hi : i < rungs (M 190)) (h : Q (payAt (M 190) (M 193) b (rateByS (M 190) (M 191) y) i)) : wp_X12_paysAtRung 189 (b : Int) (i : Int) M Q :=
  paysAtRung_gen (N := rungs (M 190)) (C := cnt (M 190)) (D := dayS (M 190)) (p := payT (M 193) b (rateByS (M 190) (M 191) y)) hi hR.2.1 (fun i hi => ⟨hR.2.2.2.1 i hi, (dayS_ok hi).1, (dayS_ok hi).2.1⟩) (fun i k hi h1 => rung_le hi h1) (fun i j h1 h2 => dayS_mono h1 h2) (fun k h1 hk P hP => paysOn_ok hR hb h1 hk hP) h
theorem lastOf_gen {M : Mem} {Q : Int → Prop} {b N : Nat} {C : Nat → Nat} {p : F1} (h0 : M 189 5 = (N : Int)) (hN : N ≤ 5) (hp : ∀ i, i < N → ∀ P : Int → Prop, P (atR C p 60 i) → wp_X12_paysAtRung 189 (b : Int) (i : Int) M P) (hr : ∀ i, 0 ≤ atR C p 60 i ∧ atR C p 60 i ≤ 18000) (h : Q (lastR C p 60 N)) : wp_X12_lastOf 189 (b : Int) M Q := by
  refine ⟨fun x2 x3 => ∃ i : Nat, x3 = (i : Int) ∧ i ≤ N ∧ x2 = lastR C p 60 i, fun _ x3 => ((N : Int) - x3).toNat, ⟨0, rfl, Nat.zero_le _, rfl⟩, ?_⟩
  rintro x2 x3 ⟨i, rfl, hi, rfl⟩
  unfold wp_X12_lastOf_B4 wp_X12_lastOf_b23
  dsimp only
  rw [h0, w32n (show N < 2147483648 by omega), w32n (show i < 2147483648 by omega)]
  refine ⟨fun u => ?_, fun u => hp i (by omega) _ ?_⟩
  · rw [show i = N by omega]; exact h
  · have := hr i
    have e : lastR C p 60 (i + 1) = if 0 < atR C p 60 i then (i : Int) else lastR C p 60 i := rfl
    rw [w32_id (z := atR C p 60 i) (by omega) (by omega)]
    refine ⟨fun u2 => ⟨⟨i + 1, by omega, by omega, ?_⟩, by omega⟩, fun u2 => ⟨⟨i + 1, by omega, by omega, ?_⟩, by omega⟩⟩
    · rw [e, if_neg (by omega)]
    · rw [e, if_pos (by omega)]
theorem allOf_gen {M : Mem} {Q : Int → Prop} {b N : Nat} {C : Nat → Nat} {p : F1} (h0 : M 189 5 = (N : Int)) (hN : N ≤ 5) (hp : ∀ i, i < N → ∀ P : Int → Prop, P (atR C p 60 i) → wp_X12_paysAtRung 189 (b : Int) (i : Int) M P) (h : Q (allR C p 60 N)) : wp_X12_allOf 189 (b : Int) M Q := by
  refine ⟨fun x2 x3 => ∃ i : Nat, x3 = (i : Int) ∧ i ≤ N ∧ x2 = allR C p 60 i, fun _ x3 => ((N : Int) - x3).toNat, ⟨0, rfl, Nat.zero_le _, rfl⟩, ?_⟩
  rintro x2 x3 ⟨i, rfl, hi, rfl⟩
  unfold wp_X12_allOf_B4
  dsimp only
  rw [h0, w32n (show N < 2147483648 by omega), w32n (show i < 2147483648 by omega)]
  refine ⟨fun u => ?_, fun u => hp i (by omega) _ ⟨⟨i + 1, by omega, by omega, rfl⟩, by omega⟩⟩
  rw [show i = N by omega]; exact h
theorem lastOf_ok {M : Mem} {y : F1} (hR : RefOK M y) {Q : Int → Prop} {b : Nat} (hb : (b : Int) < M 189 3) (h : Q (lastS (M 190) (M 193) b (rateByS (M 190) (M 191) y) (rungs (M 190)))) : wp_X12_lastOf 189 (b : Int) M Q := by
  rw [lastS_eq] at h
  exact lastOf_gen (N := rungs (M 190)) (C := cnt (M 190)) hR.2.2.1 hR.2.1 (fun i hi P hP => paysAtRung_ok hR hb hi hP) (fun i => payAt_range hR hb i) h
theorem allOf_ok {M : Mem} {y : F1} (hR : RefOK M y) {Q : Int → Prop} {b : Nat} (hb : (b : Int) < M 189 3) (h : Q (allS (M 190) (M 193) b (rateByS (M 190) (M 191) y) (rungs (M 190)))) : wp_X12_allOf 189 (b : Int) M Q := by
  rw [allS_eq] at h
  exact allOf_gen (N := rungs (M 190)) (C := cnt (M 190)) hR.2.2.1 hR.2.1 (fun i hi P hP => paysAtRung_ok hR hb hi hP) h
theorem lastS_range {d t : F1} {b : Nat} {R : F1} (n : Nat) : lastS d t b R n = -1 ∨ ∃ i, i < n ∧ lastS d t b R n = (i : Int) := by
  rw [lastS_eq]
  exact lastR_range _ _ _ n
theorem allR_range {C : Nat → Nat} {p : F1} (hr : ∀ i, 0 ≤ atR C p 60 i ∧ atR C p 60 i ≤ 18000) : ∀ n, 0 ≤ allR C p 60 n ∧ allR C p 60 n ≤ 18000 * (n : Int)
  | 0 => by unfold allR; omega
  | n + 1 => by
    have ih := allR_range hr n
    have := hr n
    unfold allR
    omega
theorem allS_range {M : Mem} {y : F1} (hR : RefOK M y) {b : Nat} (hb : (b : Int) < M 189 3) : 0 ≤ allS (M 190) (M 193) b (rateByS (M 190) (M 191) y) (rungs (M 190)) ∧ allS (M 190) (M 193) b (rateByS (M 190) (M 191) y) (rungs (M 190)) ≤ 90000 := by
  rw [allS_eq]
  have h1 := allR_range (C := cnt (M 190)) (p := payT (M 193) b (rateByS (M 190) (M 191) y)) (fun i => payAt_range hR hb i) (rungs (M 190))
  have h2 := hR.2.1
  generalize rungs (M 190) = N at *
  omega
