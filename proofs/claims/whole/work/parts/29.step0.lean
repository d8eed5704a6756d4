/-! due, rate, limit -/
/-- the cells of the books (and what follows from them) that telling changes -/
def bkc (k j : Nat) : Bool :=
  if k = 0 then j = 5 else if k = 1 then j = 4 else if k = 189 then j = 3 || j = 5 else k = 3 || k = 5 || k = 7 || (9 ≤ k && k ≤ 13) || (190 ≤ k && k ≤ 194)
theorem bkc_row {k : Nat} (h : (k = 2 || k = 4 || k = 6 || (14 ≤ k && k < 189) || 195 ≤ k) = true) (j : Nat) : bkc k j = false := by
  have h : k = 2 ∨ k = 4 ∨ k = 6 ∨ (14 ≤ k ∧ k < 189) ∨ 195 ≤ k := by
    simp only [Bool.or_eq_true, Bool.and_eq_true, decide_eq_true_eq] at h
    omega
  unfold bkc
  rw [if_neg (by omega), if_neg (by omega), if_neg (by omega)]
  simp only [Bool.or_eq_false_iff, Bool.and_eq_false_iff, decide_eq_false_iff_not]
  omega
theorem R32_i {z : Int} (h1 : -2147483648 ≤ z) (h2 : z < 2147483648) : R32 z := ⟨h1, h2⟩
theorem Inv_told {DK : Mem → Prop} {M M' : Mem} (hI : Inv DK M) (hB : InvB M') (hR : M' 189 5 = (rungs (M' 190) : Int) ∧ ∀ i, i < rungs (M' 190) → M' 194 i = (dayS (M' 190) i : Int)) (h5 : fb M' 0 5 = true) (hS : ∀ k j, bkc k j = false → M' k j = M k j) : Inv DK M' := by
  have row : ∀ k : Nat, (k = 2 || k = 4 || k = 6 || (14 ≤ k && k < 189) || 195 ≤ k) = true → M' k = M k := fun k hk => funext fun j => hS k j (bkc_row hk j)
  obtain ⟨h1, h2, h3, h4, h5', h6, h7⟩ := hI
  refine ⟨hB, ?_, ?_, ?_, ?_, ?_, ?_⟩
  · unfold InvK at *
    rw [row 2 rfl, row 4 rfl, row 6 rfl]
    exact h2
  · unfold InvR at *
    refine ⟨hR.1, hR.2, ?_⟩
    rw [row 195 rfl]
    exact h3.2.2
  · unfold InvI at *
    rw [fb_eq (hS 0 2 rfl), fb_eq (hS 189 28 rfl)]
    refine ⟨h4.1, fun q => ?_⟩
    obtain ⟨q1, q2, q3, q4, q5, q6, q7, q8, q9⟩ := h4.2 q
    rw [row 16 rfl, row 18 rfl, row 20 rfl, row 14 rfl, row 208 rfl, hS 189 29 rfl]
    refine ⟨q1, q2, q3, q4, q5, q6, q7, q8, fun b hb => ?_⟩
    have := q9 b hb
    have hb5 : b < 5 := by omega
    dsimp only at this ⊢
    rw [row (22 + b) (by grind)]
    exact this
  · unfold InvS at *
    intro j hj
    rw [row 209 rfl, row 210 rfl, row 211 rfl, row (181 + 2 * j) (by grind), row (182 + 2 * j) (by grind)]
    exact h5' j hj
  · unfold InvN at *
    rw [row 69 rfl]
    exact h6
  · intro q
    rw [h5] at q
    cases q
theorem InvB_R {M : Mem} (h : InvB M) {k : Nat} (hk : k ≤ 60) : M 3 k = M 190 k ∧ 0 ≤ M 190 k ∧ M 190 k ≤ 99 ∧ M 5 k = M 191 k - 1 ∧ 0 ≤ M 191 k ∧ M 191 k ≤ 4 ∧ M 7 k = M 192 k - 1 ∧ 0 ≤ M 192 k ∧ M 192 k ≤ 100 := h.1 k hk
theorem updI_s (d : F1) (k : Nat) (z : Int) : updI d k z k = z := by simp [updI]
theorem updI_n (d : F1) {k j : Nat} (z : Int) (h : j ≠ k) : updI d k z j = d j := by simp [updI, h]
theorem BookR_due {D R L : F1} {B : Nat → F1} {nb : Int} {d r l t : F1} {n : Int} (h : BookR D R L B nb d r l t n) {k : Nat} (h1 : 1 ≤ k) {v : Int} (hv : 0 ≤ v ∧ v ≤ 99) (hc : cnt (updI d k v) 60 ≤ 5) : BookR (updI D k v) R L B nb (updI d k v) r l t n := by
  obtain ⟨q1, q2, q3, q4, q5, q6⟩ := h
  refine ⟨fun j hj => ?_, ⟨?_, q2.2⟩, hc, q4, q5, q6⟩
  · by_cases e : j = k
    · subst e
      rw [updI_s, updI_s]
      exact ⟨rfl, hv.1, hv.2, (q1 j hj).2.2.2⟩
    · rw [updI_n _ _ e, updI_n _ _ e]
      exact q1 j hj
  · rw [updI_n _ _ (by omega)]
    exact q2.1
theorem BookR_rate {D R L : F1} {B : Nat → F1} {nb : Int} {d r l t : F1} {n : Int} (h : BookR D R L B nb d r l t n) {k : Nat} (h1 : 1 ≤ k) {v : Int} (hv : -1 ≤ v ∧ v ≤ 3) (hc : cnt (updI r k (v + 1)) 60 ≤ 6) : BookR D (updI R k v) L B nb d (updI r k (v + 1)) l t n := by
  obtain ⟨q1, q2, q3, q4, q5, q6⟩ := h
  refine ⟨fun j hj => ?_, ⟨q2.1, ?_, q2.2.2⟩, q3, hc, q5, q6⟩
  · obtain ⟨u1, u2, u3, u4, u5, u6, u7⟩ := q1 j hj
    by_cases e : j = k
    · subst e
      rw [updI_s, updI_s]
      exact ⟨u1, u2, u3, by omega, by omega, by omega, u7⟩
    · rw [updI_n _ _ e, updI_n _ _ e]
      exact ⟨u1, u2, u3, u4, u5, u6, u7⟩
  · rw [updI_n _ _ (by omega)]
    exact q2.2.1
theorem BookR_limit {D R L : F1} {B : Nat → F1} {nb : Int} {d r l t : F1} {n : Int} (h : BookR D R L B nb d r l t n) {k : Nat} (h1 : 1 ≤ k) {v : Int} (hv : -1 ≤ v ∧ v ≤ 99) (hc : cnt (updI l k (v + 1)) 60 ≤ 5) : BookR D R (updI L k v) B nb d r (updI l k (v + 1)) t n := by
  obtain ⟨q1, q2, q3, q4, q5, q6⟩ := h
  refine ⟨fun j hj => ?_, ⟨q2.1, q2.2.1, ?_⟩, q3, q4, hc, q6⟩
  · obtain ⟨u1, u2, u3, u4, u5, u6, u7, u8, u9⟩ := q1 j hj
    by_cases e : j = k
    · subst e
      rw [updI_s, updI_s]
      exact ⟨u1, u2, u3, u4, u5, u6, by omega, by omega, by omega⟩
    · rw [updI_n _ _ e, updI_n _ _ e]
      exact ⟨u1, u2, u3, u4, u5, u6, u7, u8, u9⟩
  · rw [updI_n _ _ (by omega)]
    exact q2.2.2
theorem cntne_due {D d : F1} (h : ∀ k, k ≤ 60 → D k = d k ∧ 0 ≤ d k) : cntP (fun j => decide (D j ≠ 0)) 60 = cnt d 60 := by
  refine cntP_congr fun k h1 h2 => ?_
  obtain ⟨e, p⟩ := h k h2
  unfold pos
  rw [e]
  by_cases q : d k = 0
  · simp [q]
  · have : 0 < d k := by omega
    simp [q, this]
theorem cntne_m {D d : F1} (h : ∀ k, k ≤ 60 → D k = d k - 1 ∧ 0 ≤ d k) : cntP (fun j => decide (D j ≠ -1)) 60 = cnt d 60 := by
  refine cntP_congr fun k h1 h2 => ?_
  obtain ⟨e, p⟩ := h k h2
  unfold pos
  rw [e]
  by_cases q : d k = 0
  · simp [q]
  · have : 0 < d k := by omega
    have : d k - 1 ≠ -1 := by omega
    simp [*]
/-- one telling of a due: both answer alike, and the invariant stays -/
theorem due_both {DK : Mem → Prop} {M : Mem} (hI : Inv DK M) {a1 a2 : Int} (h1 : R32 a1) (h2 : R32 a2) {Q : Int → Int → Mem → Prop}
    (hQ : ∀ (r : Int) (M2 : Mem), Inv DK M2 → (∀ k, 196 ≤ k → M2 k = M k) → (∀ k, 181 ≤ k → k < 189 → M2 k = M k) → R32 r → Q r r M2) : wp_X11_due 0 a1 a2 M (fun r M1 => wp_X12_due 189 a1 a2 M1 (fun r2 M2 => Q r r2 M2)) := by
  unfold wp_X11_due wp_X11_isDay
  rw [X11_within_iff, wl_1, wl_60, w32_R h1]
  have hX : ∀ M1 (P : Int → Mem → Prop), ¬ ((1 ≤ a1 ∧ a1 ≤ 60) ∧ (0 ≤ a2 ∧ a2 ≤ 99)) → P (-2) M1 → wp_X12_due 189 a1 a2 M1 P := by
    intro M1 P hn hP
    unfold wp_X12_due wp_X12_isDay
    rw [X12_within_iff, wl_1, wl_60, w32_R h1]
    refine ⟨fun _ => hP, fun e => ?_⟩
    rw [X12_within_iff, wl_0, wl_99, w32_R h2]
    refine ⟨fun e2 => absurd ⟨of_decide_eq_true e, of_decide_eq_true e2⟩ hn, fun _ => hP⟩
  refine ⟨fun e => ?_, fun e => ?_⟩
  · refine hX _ _ (fun q => of_decide_eq_false e q.1) ?_
    exact hQ _ _ hI (fun _ _ => rfl) (fun _ _ _ => rfl) (R32_i (by decide) (by decide))
  rw [X11_within_iff, wl_0, wl_99, w32_R h2]
  refine ⟨fun e2 => ?_, fun e2 => ?_⟩
  case refine_2 =>
    refine hX _ _ (fun q => of_decide_eq_false e2 q.2) ?_
    exact hQ _ _ hI (fun _ _ => rfl) (fun _ _ _ => rfl) (R32_i (by decide) (by decide))
  have e := of_decide_eq_true e
  have e2 := of_decide_eq_true e2
  obtain ⟨k, rfl⟩ : ∃ k : Nat, a1 = (k : Int) := ⟨a1.toNat, by omega⟩
  obtain ⟨hB, hK, hR, hIm, hS, hN, hC⟩ := id hI
  have hk1 : 1 ≤ k := by omega
  have hk60 : k ≤ 60 := by omega
  rintro M22 rfl
  have hrow : ∀ j, j ≠ 0 → st2 M 0 5 (bz true) j = M j := fun j hj => st2_off M _ hj
  -- the reference, behind whatever the class did
  have ref : ∀ (M1 : Mem) (P : Int → Mem → Prop), (∀ j, 1 ≤ j → j ≠ 3 → M1 j = M j) →
      ((0 < a2 ∧ ¬ 0 < M 190 k ∧ ¬ cnt (M 190) 60 < 5) → ∀ M2 : Mem, M2 189 5 = (rungs (M2 190) : Int) → (∀ i, i < rungs (M2 190) → M2 194 i = (dayS (M2 190) i : Int)) → M2 190 = M 190 → (∀ a j, a ≠ 194 → ¬ (a = 189 ∧ j = 5) → M2 a j = M1 a j) → P (-4) M2) →
      (¬ (0 < a2 ∧ ¬ 0 < M 190 k ∧ ¬ cnt (M 190) 60 < 5) → ∀ M2 : Mem, M2 189 5 = (rungs (M2 190) : Int) → (∀ i, i < rungs (M2 190) → M2 194 i = (dayS (M2 190) i : Int)) → M2 190 = updI (M 190) k a2 → (∀ a j, a ≠ 194 → a ≠ 190 → ¬ (a = 189 ∧ j = 5) → M2 a j = M1 a j) → P (M 190 k) M2) →
      wp_X12_due 189 (k : Int) a2 M1 P := by
    intro M1 P hM1 c1 c2
    unfold wp_X12_due wp_X12_isDay
    rw [X12_within_iff, wl_1, wl_60, w32_R h1]
    refine ⟨fun q => absurd e (of_decide_eq_false q), fun _ => ?_⟩
    rw [X12_within_iff, wl_0, wl_99, w32_R h2]
    refine ⟨fun _ => ?_, fun q => absurd e2 (of_decide_eq_false q)⟩
    rw [rtv_189_0]
    have r0 : M1 190 = M 190 := hM1 190 (by decide) (by decide)
    have hc5 : cnt (M 190) 60 ≤ 5 := hB.2.2.1
    refine X12_becomes_ok (mx := 5) LN_190.1 (fun j hj => ?_) (by decide) (by rw [r0]; exact hc5) hk60 h2 ?_ ?_
    · rw [r0]
      obtain ⟨u1, u2, u3, -⟩ := InvB_R hB hj
      exact ⟨⟨by omega, by omega⟩, u2⟩
    · intro q
      rw [r0] at q
      refine finds_ok (fun j hj => ?_) (by rw [r0]; exact hc5) ?_
      · rw [r0]
        obtain ⟨u1, u2, u3, -⟩ := InvB_R hB hj
        exact ⟨by omega, by omega⟩
      · intro M' f1 f2 f3
        have r1 : M' 190 = M1 190 := funext fun j => f3 190 j (by decide) (by omega)
        refine c1 q M' (by rw [r1]; exact f1) (by rw [r1]; exact f2) (by rw [r1, r0]) (fun a j n1 n2 => f3 a j n1 n2)
    · intro q
      rw [r0] at q
      have r2 : st2 M1 190 k a2 190 = updI (M 190) k a2 := by rw [st2_row, r0]
      rw [r0]
      refine finds_ok (fun j hj => ?_) (by rw [r2]; exact cnt_upd_le hc5 q) ?_
      · rw [r2]
        by_cases z : j = k
        · subst z; rw [updI_s]; exact h2
        · rw [updI_n _ _ z]
          obtain ⟨u1, u2, u3, -⟩ := InvB_R hB hj
          exact ⟨by omega, by omega⟩
      · intro M' f1 f2 f3
        have r1 : M' 190 = st2 M1 190 k a2 190 := funext fun j => f3 190 j (by decide) (by omega)
        refine c2 q M' (by rw [r1]; exact f1) (by rw [r1]; exact f2) (by rw [r1, r2]) (fun a j n1 n2 n3 => ?_)
        rw [f3 a j n1 n3, st2_n _ _ (fun z => n2 z.1)]
  have hcn : cntP (fun j => decide (M 3 j ≠ 0)) 60 = cnt (M 190) 60 := cntne_due fun j hj => ⟨(InvB_R hB hj).1, (InvB_R hB hj).2.1⟩
  have hb3 : ∀ j, j ≤ 60 → R32 (M 3 j) := fun j hj => by
    obtain ⟨u1, u2, u3, -⟩ := InvB_R hB hj
    exact ⟨by omega, by omega⟩
  have hcond : (a2 ≠ 0 ∧ M 3 k = 0 ∧ ¬ cntP (fun j => decide (M 3 j ≠ 0)) 60 < 5) ↔ (0 < a2 ∧ ¬ 0 < M 190 k ∧ ¬ cnt (M 190) 60 < 5) := by
    obtain ⟨u1, u2, u3, -⟩ := InvB_R hB hk60
    rw [hcn]
    constructor
    · rintro ⟨x, y, z⟩; exact ⟨by omega, by omega, z⟩
    · rintro ⟨x, y, z⟩; exact ⟨by omega, by omega, z⟩
  rw [rtv_0_0, rtv_1_0]
  refine X2_tell_ok (mx := 5) (no := 0) rtv_2_0 LN_3.1 (fun j hj => ?_) (by rw [hrow 2 (by decide)]; exact hK.1) (R32_i (by decide) (by decide)) (by rw [hrow 2 (by decide)]; exact hK.2.1) (by decide) hk60 h2 ?_ ?_
  · rw [hrow 3 (by decide)]; exact hb3 j hj
  · intro q
    rw [hrow 3 (by decide)] at q
    refine ref _ _ (fun j hj _ => hrow j (by omega)) ?_ (fun q2 => absurd (hcond.mp q) q2)
    intro _ M2 f1 f2 f3 f4
    have k1 : ∀ a, 1 ≤ a → a ≠ 194 → a ≠ 189 → M2 a = M a := fun a z1 z2 z3 => funext fun j => by rw [f4 a j z2 (fun z => z3 z.1), hrow a (by omega)]
    refine hQ _ _ (Inv_told hI ?_ ⟨f1, f2⟩ ?_ ?_) (fun a ha => k1 a (by omega) (by omega) (by omega)) (fun a ha hb => k1 a (by omega) (by omega) (by omega)) (R32_i (by decide) (by decide))
    · unfold InvB at *
      rw [k1 3 (by decide) (by decide) (by decide), k1 5 (by decide) (by decide) (by decide), k1 7 (by decide) (by decide) (by decide), k1 1 (by decide) (by decide) (by decide), k1 190 (by decide) (by decide) (by decide), k1 191 (by decide) (by decide) (by decide), k1 192 (by decide) (by decide) (by decide), k1 193 (by decide) (by decide) (by decide), f4 189 3 (by decide) (by decide), hrow 189 (by decide)]
      obtain ⟨p1, p2, p3, p4, p5, p6, p7, p8, p9⟩ := hB
      refine ⟨p1, p2, p3, p4, p5, p6, p7, p8, fun b hb => ?_⟩
      have := p9 b hb
      dsimp only at this ⊢
      rw [k1 (9 + b) (by omega) (by omega) (by omega)]
      exact this
    · have : M2 0 5 = bz true := by rw [f4 0 5 (by decide) (by decide), st2_s]
      unfold fb
      rw [this]
      rfl
    · intro a j hj
      rw [f4 a j (fun z => by subst z; revert hj; unfold bkc; simp) (fun z => by obtain ⟨rfl, rfl⟩ := z; revert hj; decide)]
      rw [st2_n _ _ (fun z => by obtain ⟨rfl, rfl⟩ := z; revert hj; decide)]
  · intro q
    rw [hrow 3 (by decide)] at q ⊢
    rw [(InvB_R hB hk60).1]
    refine ref _ _ (fun j hj hj2 => by rw [st2_off _ _ hj2, hrow j (by omega)]) (fun q2 => absurd (hcond.mpr q2) q) ?_
    intro q2 M2 f1 f2 f3 f4
    have k1 : ∀ a, 1 ≤ a → a ≠ 194 → a ≠ 190 → a ≠ 189 → a ≠ 3 → M2 a = M a := fun a z1 z2 z3 z4 z5 => funext fun j => by rw [f4 a j z2 z3 (fun z => z4 z.1), st2_off _ _ z5, hrow a (by omega)]
    have k3 : M2 3 = updI (M 3) k a2 := funext fun j => by rw [f4 3 j (by decide) (by decide) (by omega), st2_row, hrow 3 (by decide)]
    refine hQ _ _ (Inv_told hI ?_ ⟨f1, f2⟩ ?_ ?_) (fun a ha => k1 a (by omega) (by omega) (by omega) (by omega) (by omega)) (fun a ha hb => k1 a (by omega) (by omega) (by omega) (by omega) (by omega)) ?_
    · unfold InvB at *
      rw [k3, f3, k1 5 (by decide) (by decide) (by decide) (by decide) (by decide), k1 7 (by decide) (by decide) (by decide) (by decide) (by decide), k1 1 (by decide) (by decide) (by decide) (by decide) (by decide), k1 191 (by decide) (by decide) (by decide) (by decide) (by decide), k1 192 (by decide) (by decide) (by decide) (by decide) (by decide), k1 193 (by decide) (by decide) (by decide) (by decide) (by decide), f4 189 3 (by decide) (by decide) (by decide), st2_off _ _ (show 189 ≠ 3 by decide), hrow 189 (by decide)]
      obtain ⟨p1, p2, p3, p4, p5, p6, p7, p8, p9⟩ := BookR_due hB hk1 e2 (cnt_upd_le hB.2.2.1 q2)
      refine ⟨p1, p2, p3, p4, p5, p6, p7, p8, fun b hb => ?_⟩
      have := p9 b hb
      dsimp only at this ⊢
      rw [k1 (9 + b) (by omega) (by omega) (by omega) (by omega) (by omega)]
      exact this
    · have : M2 0 5 = bz true := by rw [f4 0 5 (by decide) (by decide) (by decide), st2_off _ _ (show 0 ≠ 3 by decide), st2_s]
      unfold fb
      rw [this]
      rfl
    · intro a j hj
      rw [f4 a j (fun z => by subst z; revert hj; unfold bkc; simp) (fun z => by subst z; revert hj; unfold bkc; simp) (fun z => by obtain ⟨rfl, rfl⟩ := z; revert hj; decide)]
      rw [st2_n _ _ (fun z => by obtain ⟨rfl, rfl⟩ := z; revert hj; unfold bkc; simp), st2_n _ _ (fun z => by obtain ⟨rfl, rfl⟩ := z; revert hj; decide)]
    · obtain ⟨u1, u2, u3, -⟩ := InvB_R hB hk60
      exact ⟨by omega, by omega⟩
theorem step_0 {DK : Mem → Prop} : Step_0 (Inv DK) := by
  intro M hI a1 a2 h1 h2
  exact due_both hI h1 h2 (fun r M2 h _ _ _ => ⟨rfl, h⟩)
