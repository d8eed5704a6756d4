/-! telling a rate, a limit (made by program: see 29) -/
theorem step_1 {DK : Mem → Prop} : Step_1 (Inv DK) := by
  intro M hI a1 a2 h1 h2
  unfold wp_X11_rate wp_X11_isDay
  rw [X11_within_iff, wl_1, wl_60, w32_R h1]
  have hX : ∀ M1 (P : Int → Mem → Prop), ¬ ((1 ≤ a1 ∧ a1 ≤ 60) ∧ (-1 ≤ a2 ∧ a2 ≤ 3)) → P (-2) M1 → wp_X12_rate 189 a1 a2 M1 P := by
    intro M1 P hn hP
    unfold wp_X12_rate wp_X12_isDay
    rw [X12_within_iff, wl_1, wl_60, w32_R h1]
    refine ⟨fun _ => hP, fun e => ?_⟩
    rw [X12_within_iff, wm_1, wl_3, w32_R h2]
    refine ⟨fun e2 => absurd ⟨of_decide_eq_true e, of_decide_eq_true e2⟩ hn, fun _ => hP⟩
  refine ⟨fun e => ?_, fun e => ?_⟩
  · refine hX _ _ (fun q => of_decide_eq_false e q.1) ?_
    exact ⟨rfl, hI⟩
  rw [X11_within_iff, wm_1, wl_3, w32_R h2]
  refine ⟨fun e2 => ?_, fun e2 => ?_⟩
  case refine_2 =>
    refine hX _ _ (fun q => of_decide_eq_false e2 q.2) ?_
    exact ⟨rfl, hI⟩
  have e := of_decide_eq_true e
  have e2 := of_decide_eq_true e2
  obtain ⟨k, rfl⟩ : ∃ k : Nat, a1 = (k : Int) := ⟨a1.toNat, by omega⟩
  obtain ⟨hB, hK, hR, hIm, hS, hN, hC⟩ := id hI
  have hk1 : 1 ≤ k := by omega
  have hk60 : k ≤ 60 := by omega
  rintro M22 rfl
  have hrow : ∀ j, j ≠ 0 → st2 M 0 5 (bz true) j = M j := fun j hj => st2_off M _ hj
  have hc5 : cnt (M 191) 60 ≤ 6 := hB.2.2.2.1
  have ref : ∀ (M1 : Mem) (P : Int → Mem → Prop), (∀ j, 1 ≤ j → j ≠ 5 → M1 j = M j) →
      ((0 < a2 + 1 ∧ ¬ 0 < M 191 k ∧ ¬ cnt (M 191) 60 < 6) → P (-4) M1) →
      (¬ (0 < a2 + 1 ∧ ¬ 0 < M 191 k ∧ ¬ cnt (M 191) 60 < 6) → P (M 191 k - 1) (st2 M1 191 k (a2 + 1))) →
      wp_X12_rate 189 (k : Int) a2 M1 P := by
    intro M1 P hM1 c1 c2
    unfold wp_X12_rate wp_X12_isDay
    rw [X12_within_iff, wl_1, wl_60, w32_R h1]
    refine ⟨fun q => absurd e (of_decide_eq_false q), fun _ => ?_⟩
    rw [X12_within_iff, wm_1, wl_3, w32_R h2]
    refine ⟨fun _ => ?_, fun q => absurd e2 (of_decide_eq_false q)⟩
    rw [rtv_189_1]
    have r0 : M1 191 = M 191 := hM1 191 (by decide) (by decide)
    refine X12_becomes_ok (mx := 6) LN_191.1 (fun j hj => ?_) (by decide) (by rw [r0]; exact hc5) hk60 (R32_i (by omega) (by omega)) ?_ ?_
    · rw [r0]
      obtain ⟨u1, u2, u3, u4, u5, u6, u7, u8, u9⟩ := InvB_R hB hj
      exact ⟨⟨by omega, by omega⟩, u5⟩
    · intro q
      rw [r0] at q
      exact ⟨fun u => absurd rfl u, fun _ => c1 q⟩
    · intro q
      rw [r0] at q
      rw [r0]
      obtain ⟨u1, u2, u3, u4, u5, u6, u7, u8, u9⟩ := InvB_R hB hk60
      rw [wm_4, w32_id (z := M 191 k) (by omega) (by omega)]
      exact ⟨fun _ => c2 q, fun u => absurd (show ¬ M 191 k = -4 by omega) u⟩
  have hcn : cntP (fun j => decide (M 5 j ≠ -1)) 60 = cnt (M 191) 60 := cntne_m fun j hj => by
    obtain ⟨u1, u2, u3, u4, u5, u6, u7, u8, u9⟩ := InvB_R hB hj
    exact ⟨by omega, by omega⟩
  have hb3 : ∀ j, j ≤ 60 → R32 (M 5 j) := fun j hj => by
    obtain ⟨u1, u2, u3, u4, u5, u6, u7, u8, u9⟩ := InvB_R hB hj
    exact ⟨by omega, by omega⟩
  have hcond : (a2 ≠ -1 ∧ M 5 k = -1 ∧ ¬ cntP (fun j => decide (M 5 j ≠ -1)) 60 < 6) ↔ (0 < a2 + 1 ∧ ¬ 0 < M 191 k ∧ ¬ cnt (M 191) 60 < 6) := by
    obtain ⟨u1, u2, u3, u4, u5, u6, u7, u8, u9⟩ := InvB_R hB hk60
    rw [hcn]
    constructor
    · rintro ⟨x, y, z⟩; exact ⟨by omega, by omega, z⟩
    · rintro ⟨x, y, z⟩; exact ⟨by omega, by omega, z⟩
  rw [rtv_0_0, rtv_1_1]
  refine X2_tell_ok (mx := 6) (no := -1) rtv_4_0 LN_5.1 (fun j hj => ?_) (by rw [hrow 4 (by decide)]; exact hK.2.2.1) (R32_i (by decide) (by decide)) (by rw [hrow 4 (by decide)]; exact hK.2.2.2.1) (by decide) hk60 h2 ?_ ?_
  · rw [hrow 5 (by decide)]; exact hb3 j hj
  · intro q
    rw [hrow 5 (by decide)] at q
    refine ref _ _ (fun j hj _ => hrow j (by omega)) ?_ (fun q2 => absurd (hcond.mp q) q2)
    intro _
    have k1 : ∀ a, 1 ≤ a → st2 M 0 5 (bz true) a = M a := fun a z1 => hrow a (by omega)
    refine ⟨rfl, Inv_told hI ?_ ?_ (fb_s _ _ _ _) ?_⟩
    · unfold InvB at *
      rw [k1 3 (by decide), k1 5 (by decide), k1 7 (by decide), k1 1 (by decide), k1 190 (by decide), k1 191 (by decide), k1 192 (by decide), k1 193 (by decide), k1 189 (by decide)]
      obtain ⟨p1, p2, p3, p4, p5, p6, p7, p8, p9⟩ := hB
      refine ⟨p1, p2, p3, p4, p5, p6, p7, p8, fun b hb => ?_⟩
      have := p9 b hb
      dsimp only at this ⊢
      rw [k1 (9 + b) (by omega)]
      exact this
    · rw [k1 189 (by decide), k1 190 (by decide), k1 194 (by decide)]
      exact ⟨hR.1, hR.2.1⟩
    · intro a j hj
      rw [st2_n _ _ (fun z => by obtain ⟨rfl, rfl⟩ := z; revert hj; decide)]
  · intro q
    rw [hrow 5 (by decide)] at q ⊢
    refine ref _ _ (fun j hj hj2 => by rw [st2_off _ _ hj2, hrow j (by omega)]) (fun q2 => absurd (hcond.mpr q2) q) ?_
    intro q2
    obtain ⟨u1, u2, u3, u4, u5, u6, u7, u8, u9⟩ := InvB_R hB hk60
    have k1 : ∀ a, 1 ≤ a → a ≠ 191 → a ≠ 5 → st2 (st2 (st2 M 0 5 (bz true)) 5 k a2) 191 k (a2 + 1) a = M a := fun a z1 z2 z3 => by rw [st2_off _ _ z2, st2_off _ _ z3, hrow a (by omega)]
    have k3 : st2 (st2 (st2 M 0 5 (bz true)) 5 k a2) 191 k (a2 + 1) 5 = updI (M 5) k a2 := by rw [st2_off _ _ (show 5 ≠ 191 by decide), st2_row, hrow 5 (by decide)]
    have k4 : st2 (st2 (st2 M 0 5 (bz true)) 5 k a2) 191 k (a2 + 1) 191 = updI (M 191) k (a2 + 1) := by rw [st2_row, st2_off _ _ (show 191 ≠ 5 by decide), hrow 191 (by decide)]
    refine ⟨?_, Inv_told hI ?_ ?_ ?_ ?_⟩
    · congr 1
    · unfold InvB at *
      rw [k3, k4, k1 3 (by decide) (by decide) (by decide), k1 7 (by decide) (by decide) (by decide), k1 1 (by decide) (by decide) (by decide), k1 190 (by decide) (by decide) (by decide), k1 192 (by decide) (by decide) (by decide), k1 193 (by decide) (by decide) (by decide), k1 189 (by decide) (by decide) (by decide)]
      obtain ⟨p1, p2, p3, p4, p5, p6, p7, p8, p9⟩ := BookR_rate hB hk1 e2 (cnt_upd_le hc5 q2)
      refine ⟨p1, p2, p3, p4, p5, p6, p7, p8, fun b hb => ?_⟩
      have := p9 b hb
      dsimp only at this ⊢
      rw [k1 (9 + b) (by omega) (by omega) (by omega)]
      exact this
    · rw [k1 189 (by decide) (by decide) (by decide), k1 190 (by decide) (by decide) (by decide), k1 194 (by decide) (by decide) (by decide)]
      exact ⟨hR.1, hR.2.1⟩
    · rw [fb_n _ _ (by omega), fb_n _ _ (by omega)]
      exact fb_s _ _ _ _
    · intro a j hj
      rw [st2_n _ _ (fun z => by obtain ⟨rfl, rfl⟩ := z; revert hj; unfold bkc; simp), st2_n _ _ (fun z => by obtain ⟨rfl, rfl⟩ := z; revert hj; unfold bkc; simp), st2_n _ _ (fun z => by obtain ⟨rfl, rfl⟩ := z; revert hj; decide)]
theorem step_2 {DK : Mem → Prop} : Step_2 (Inv DK) := by
  intro M hI a1 a2 h1 h2
  unfold wp_X11_limit wp_X11_isDay
  rw [X11_within_iff, wl_1, wl_60, w32_R h1]
  have hX : ∀ M1 (P : Int → Mem → Prop), ¬ ((1 ≤ a1 ∧ a1 ≤ 60) ∧ (-1 ≤ a2 ∧ a2 ≤ 99)) → P (-2) M1 → wp_X12_limit 189 a1 a2 M1 P := by
    intro M1 P hn hP
    unfold wp_X12_limit wp_X12_isDay
    rw [X12_within_iff, wl_1, wl_60, w32_R h1]
    refine ⟨fun _ => hP, fun e => ?_⟩
    rw [X12_within_iff, wm_1, wl_99, w32_R h2]
    refine ⟨fun e2 => absurd ⟨of_decide_eq_true e, of_decide_eq_true e2⟩ hn, fun _ => hP⟩
  refine ⟨fun e => ?_, fun e => ?_⟩
  · refine hX _ _ (fun q => of_decide_eq_false e q.1) ?_
    exact ⟨rfl, hI⟩
  rw [X11_within_iff, wm_1, wl_99, w32_R h2]
  refine ⟨fun e2 => ?_, fun e2 => ?_⟩
  case refine_2 =>
    refine hX _ _ (fun q => of_decide_eq_false e2 q.2) ?_
    exact ⟨rfl, hI⟩
  have e := of_decide_eq_true e
  have e2 := of_decide_eq_true e2
  obtain ⟨k, rfl⟩ : ∃ k : Nat, a1 = (k : Int) := ⟨a1.toNat, by omega⟩
  obtain ⟨hB, hK, hR, hIm, hS, hN, hC⟩ := id hI
  have hk1 : 1 ≤ k := by omega
  have hk60 : k ≤ 60 := by omega
  rintro M22 rfl
  have hrow : ∀ j, j ≠ 0 → st2 M 0 5 (bz true) j = M j := fun j hj => st2_off M _ hj
  have hc5 : cnt (M 192) 60 ≤ 5 := hB.2.2.2.2.1
  have ref : ∀ (M1 : Mem) (P : Int → Mem → Prop), (∀ j, 1 ≤ j → j ≠ 7 → M1 j = M j) →
      ((0 < a2 + 1 ∧ ¬ 0 < M 192 k ∧ ¬ cnt (M 192) 60 < 5) → P (-4) M1) →
      (¬ (0 < a2 + 1 ∧ ¬ 0 < M 192 k ∧ ¬ cnt (M 192) 60 < 5) → P (M 192 k - 1) (st2 M1 192 k (a2 + 1))) →
      wp_X12_limit 189 (k : Int) a2 M1 P := by
    intro M1 P hM1 c1 c2
    unfold wp_X12_limit wp_X12_isDay
    rw [X12_within_iff, wl_1, wl_60, w32_R h1]
    refine ⟨fun q => absurd e (of_decide_eq_false q), fun _ => ?_⟩
    rw [X12_within_iff, wm_1, wl_99, w32_R h2]
    refine ⟨fun _ => ?_, fun q => absurd e2 (of_decide_eq_false q)⟩
    rw [rtv_189_2]
    have r0 : M1 192 = M 192 := hM1 192 (by decide) (by decide)
    refine X12_becomes_ok (mx := 5) LN_192.1 (fun j hj => ?_) (by decide) (by rw [r0]; exact hc5) hk60 (R32_i (by omega) (by omega)) ?_ ?_
    · rw [r0]
      obtain ⟨u1, u2, u3, u4, u5, u6, u7, u8, u9⟩ := InvB_R hB hj
      exact ⟨⟨by omega, by omega⟩, u8⟩
    · intro q
      rw [r0] at q
      exact ⟨fun u => absurd rfl u, fun _ => c1 q⟩
    · intro q
      rw [r0] at q
      rw [r0]
      obtain ⟨u1, u2, u3, u4, u5, u6, u7, u8, u9⟩ := InvB_R hB hk60
      rw [wm_4, w32_id (z := M 192 k) (by omega) (by omega)]
      exact ⟨fun _ => c2 q, fun u => absurd (show ¬ M 192 k = -4 by omega) u⟩
  have hcn : cntP (fun j => decide (M 7 j ≠ -1)) 60 = cnt (M 192) 60 := cntne_m fun j hj => by
    obtain ⟨u1, u2, u3, u4, u5, u6, u7, u8, u9⟩ := InvB_R hB hj
    exact ⟨by omega, by omega⟩
  have hb3 : ∀ j, j ≤ 60 → R32 (M 7 j) := fun j hj => by
    obtain ⟨u1, u2, u3, u4, u5, u6, u7, u8, u9⟩ := InvB_R hB hj
    exact ⟨by omega, by omega⟩
  have hcond : (a2 ≠ -1 ∧ M 7 k = -1 ∧ ¬ cntP (fun j => decide (M 7 j ≠ -1)) 60 < 5) ↔ (0 < a2 + 1 ∧ ¬ 0 < M 192 k ∧ ¬ cnt (M 192) 60 < 5) := by
    obtain ⟨u1, u2, u3, u4, u5, u6, u7, u8, u9⟩ := InvB_R hB hk60
    rw [hcn]
    constructor
    · rintro ⟨x, y, z⟩; exact ⟨by omega, by omega, z⟩
    · rintro ⟨x, y, z⟩; exact ⟨by omega, by omega, z⟩
  rw [rtv_0_0, rtv_1_2]
  refine X2_tell_ok (mx := 5) (no := -1) rtv_6_0 LN_7.1 (fun j hj => ?_) (by rw [hrow 6 (by decide)]; exact hK.2.2.2.2.1) (R32_i (by decide) (by decide)) (by rw [hrow 6 (by decide)]; exact hK.2.2.2.2.2) (by decide) hk60 h2 ?_ ?_
  · rw [hrow 7 (by decide)]; exact hb3 j hj
  · intro q
    rw [hrow 7 (by decide)] at q
    refine ref _ _ (fun j hj _ => hrow j (by omega)) ?_ (fun q2 => absurd (hcond.mp q) q2)
    intro _
    have k1 : ∀ a, 1 ≤ a → st2 M 0 5 (bz true) a = M a := fun a z1 => hrow a (by omega)
    refine ⟨rfl, Inv_told hI ?_ ?_ (fb_s _ _ _ _) ?_⟩
    · unfold InvB at *
      rw [k1 3 (by decide), k1 5 (by decide), k1 7 (by decide), k1 1 (by decide), k1 190 (by decide), k1 191 (by decide), k1 192 (by decide), k1 193 (by decide), k1 189 (by decide)]
      obtain ⟨p1, p2, p3, p4, p5, p6, p7, p8, p9⟩ := hB
      refine ⟨p1, p2, p3, p4, p5, p6, p7, p8, fun b hb => ?_⟩
      have := p9 b hb
      dsimp only at this ⊢
      rw [k1 (9 + b) (by omega)]
      exact this
    · rw [k1 189 (by decide), k1 190 (by decide), k1 194 (by decide)]
      exact ⟨hR.1, hR.2.1⟩
    · intro a j hj
      rw [st2_n _ _ (fun z => by obtain ⟨rfl, rfl⟩ := z; revert hj; decide)]
  · intro q
    rw [hrow 7 (by decide)] at q ⊢
    refine ref _ _ (fun j hj hj2 => by rw [st2_off _ _ hj2, hrow j (by omega)]) (fun q2 => absurd (hcond.mpr q2) q) ?_
    intro q2
    obtain ⟨u1, u2, u3, u4, u5, u6, u7, u8, u9⟩ := InvB_R hB hk60
    have k1 : ∀ a, 1 ≤ a → a ≠ 192 → a ≠ 7 → st2 (st2 (st2 M 0 5 (bz true)) 7 k a2) 192 k (a2 + 1) a = M a := fun a z1 z2 z3 => by rw [st2_off _ _ z2, st2_off _ _ z3, hrow a (by omega)]
    have k3 : st2 (st2 (st2 M 0 5 (bz true)) 7 k a2) 192 k (a2 + 1) 7 = updI (M 7) k a2 := by rw [st2_off _ _ (show 7 ≠ 192 by decide), st2_row, hrow 7 (by decide)]
    have k4 : st2 (st2 (st2 M 0 5 (bz true)) 7 k a2) 192 k (a2 + 1) 192 = updI (M 192) k (a2 + 1) := by rw [st2_row, st2_off _ _ (show 192 ≠ 7 by decide), hrow 192 (by decide)]
    refine ⟨?_, Inv_told hI ?_ ?_ ?_ ?_⟩
    · congr 1
    · unfold InvB at *
      rw [k3, k4, k1 3 (by decide) (by decide) (by decide), k1 5 (by decide) (by decide) (by decide), k1 1 (by decide) (by decide) (by decide), k1 190 (by decide) (by decide) (by decide), k1 191 (by decide) (by decide) (by decide), k1 193 (by decide) (by decide) (by decide), k1 189 (by decide) (by decide) (by decide)]
      obtain ⟨p1, p2, p3, p4, p5, p6, p7, p8, p9⟩ := BookR_limit hB hk1 e2 (cnt_upd_le hc5 q2)
      refine ⟨p1, p2, p3, p4, p5, p6, p7, p8, fun b hb => ?_⟩
      have := p9 b hb
      dsimp only at this ⊢
      rw [k1 (9 + b) (by omega) (by omega) (by omega)]
      exact this
    · rw [k1 189 (by decide) (by decide) (by decide), k1 190 (by decide) (by decide) (by decide), k1 194 (by decide) (by decide) (by decide)]
      exact ⟨hR.1, hR.2.1⟩
    · rw [fb_n _ _ (by omega), fb_n _ _ (by omega)]
      exact fb_s _ _ _ _
    · intro a j hj
      rw [st2_n _ _ (fun z => by obtain ⟨rfl, rfl⟩ := z; revert hj; unfold bkc; simp), st2_n _ _ (fun z => by obtain ⟨rfl, rfl⟩ := z; revert hj; unfold bkc; simp), st2_n _ _ (fun z => by obtain ⟨rfl, rfl⟩ := z; revert hj; decide)]
