/-! bonds: bond, hold, told, taken; count -/
theorem keepH_keep {k j : Nat} (h : keepH k j = true) : keep k j = true := by
  unfold keepH at h
  unfold keep
  simp only [Bool.or_eq_true, Bool.and_eq_true, decide_eq_true_eq] at h
  by_cases h0 : k = 0
  · subst h0
    simp
    omega
  · by_cases h27 : k = 27
    · omega
    · by_cases h1 : k < 48
      · omega
      · rw [if_neg h1, if_neg (by omega), if_neg (by omega)]
        by_cases h2 : k < 98
        · rw [if_pos h2]
        · rw [if_neg h2, if_neg (by omega)]
          by_cases h3 : k < 174
          · rw [if_pos h3]
          · rw [if_neg h3, if_neg (by omega), if_neg (by omega)]
            by_cases h4 : k = 189
            · rw [if_pos h4]
              simp
              omega
            · rw [if_neg h4, if_pos (by omega)]
theorem KeptH_Kept {DK : Mem → Prop} (h : KeptH DK) : Kept DK := fun M M2 hS hD => h M M2 (fun k j q => hS k j (keepH_keep q)) hD
theorem term_ok {a : Nat} {w : Nat} {M : Mem} {Q : Int → Prop} (hw : w < 7) (h : Q (M a w)) : wp_X0_term a (w : Int) M Q := by
  unfold wp_X0_term
  rw [w32n (show w < 2147483648 by omega)]
  have c : w = 0 ∨ w = 1 ∨ w = 2 ∨ w = 3 ∨ w = 4 ∨ w = 5 ∨ w = 6 := by omega
  rcases c with rfl | rfl | rfl | rfl | rfl | rfl | rfl
  · exact ⟨fun _ => h, fun z => by omega, fun z => by omega, fun z => by omega, fun z => by omega, fun z => by omega, fun z => by omega⟩
  · exact ⟨fun z => by omega, fun _ => h, fun z => by omega, fun z => by omega, fun z => by omega, fun z => by omega, fun z => by omega⟩
  · exact ⟨fun z => by omega, fun z => by omega, fun _ => h, fun z => by omega, fun z => by omega, fun z => by omega, fun z => by omega⟩
  · exact ⟨fun z => by omega, fun z => by omega, fun z => by omega, fun _ => h, fun z => by omega, fun z => by omega, fun z => by omega⟩
  · exact ⟨fun z => by omega, fun z => by omega, fun z => by omega, fun z => by omega, fun _ => h, fun z => by omega, fun z => by omega⟩
  · exact ⟨fun z => by omega, fun z => by omega, fun z => by omega, fun z => by omega, fun z => by omega, fun _ => h, fun z => by omega⟩
  · exact ⟨fun z => by omega, fun z => by omega, fun z => by omega, fun z => by omega, fun z => by omega, fun z => by omega, fun _ => h⟩
theorem step_7 {DK : Mem → Prop} : Step_7 (Inv DK) := by
  intro M hI a1 a2 h1 h2
  unfold wp_X11_told
  obtain ⟨n1, n2⟩ := Inv_n hI
  have bad : ¬ ((0 ≤ a1 ∧ a1 < M 189 3) ∧ (0 ≤ a2 ∧ a2 ≤ 8)) → wp_X12_told 189 a1 a2 M (fun r2 => w32 (-2) = w32 r2 ∧ Inv DK M) := by
    intro e
    unfold wp_X12_told
    rw [isBond_iff rfl n2 h1]
    refine dcf (fun z => ?_) (fun _ => ⟨rfl, hI⟩)
    rw [X12_within_iff, wl_0, wl_8, w32_R h2]
    exact dct (fun z2 => absurd ⟨z, z2⟩ e) (fun _ => ⟨rfl, hI⟩)
  rw [rtv_0_0, hasBond_iff n1 n2 h1]
  refine dcf (fun e => ?_) (fun e => bad (fun z => e z.1))
  rw [X11_within_iff, wl_0, wl_8, w32_R h2]
  refine dct (fun e2 => ?_) (fun e2 => bad (fun z => e2 z.2))
  refine look_ok hI (fun M1 hI1 hS _ hf => ?_)
  have hR := Inv_RefOK hI1
  have e3 : M1 189 3 = M 189 3 := hf 189 3 (by omega) (by omega)
  obtain ⟨b, rfl, hb⟩ := natOfI (n := M1 189 3) (a := a1) (by rw [e3]; exact e)
  obtain ⟨n1', n2'⟩ := Inv_n hI1
  have hb5 : b < 5 := by omega
  have hBt := (BookR_t hI1.1 hb).2.1
  obtain ⟨w, rfl⟩ : ∃ w : Nat, a2 = (w : Int) := ⟨a2.toNat, by omega⟩
  obtain ⟨-, -, v3, v4⟩ := Scene_bond hS hb
  have key : ∀ r : Int, (w < 7 → r = M1 193 (5 * w + b)) → (w = 7 → r = lastS (M1 190) (M1 193) b (rateByS (M1 190) (M1 191) noY) (rungs (M1 190))) → (w = 8 → r = allS (M1 190) (M1 193) b (rateByS (M1 190) (M1 191) noY) (rungs (M1 190))) → wp_X12_told 189 (b : Int) (w : Int) M1 (fun r2 => w32 r = w32 r2 ∧ Inv DK M1) := by
    intro r c1 c2 c3
    unfold wp_X12_told
    rw [isBond_iff rfl n2' h1]
    refine dcf (fun z => ?_) (fun z => absurd (by rw [e3]; exact e) z)
    rw [X12_within_iff, wl_0, wl_8, wl_7, w32_R h2]
    refine dct (fun z2 => ?_) (fun z2 => absurd e2 z2)
    refine ⟨fun u => ⟨fun u2 => allOf_ok hR hb ⟨?_, hI1⟩, fun u2 => lastOf_ok hR hb ⟨?_, hI1⟩⟩, fun u => of_ok rfl hb5 (by omega) ⟨?_, hI1⟩⟩
    · rw [c3 (by clear v3 v4; omega)]
    · rw [c2 (by clear v3 v4; omega)]
    · rw [c1 (by clear v3 v4; omega)]
  rw [wl_7, rtv_0_3, rtv_1_3, rtv_27_9, rtv_27_10, ixn (show b < 2147483648 by clear v3 v4; omega), rt_8 b hb5]
  refine ⟨fun u => ⟨fun u2 => ⟨inbn LN_8 hb5, term_ok (by clear v3 v4; omega) (key _ (fun _ => hBt w (by clear v3 v4; omega)) (fun z => absurd z (by clear v3 v4; omega)) (fun z => absurd z (by clear v3 v4; omega)))⟩, fun u2 => ⟨inbn LN_46 hb5, key _ (fun z => absurd z (by clear v3 v4; omega)) (fun z => absurd z (by clear v3 v4; omega)) (fun _ => v3)⟩⟩, fun u => ⟨inbn LN_47 hb5, key _ (fun z => absurd z (by clear v3 v4; omega)) (fun _ => v4) (fun z => absurd z (by clear v3 v4; omega))⟩⟩
/-! kinds under kinds -/
def okK (x k : Int) : Bool := decide (x ≠ -1 ∧ (k = x ∨ k = 0 ∨ (x = 3 ∧ k = 1) ∨ (4 ≤ x ∧ k = 2)))
def dK (x : Int) : Nat := if x = -1 then 0 else if x = 0 then 1 else if x ≤ 2 then 2 else 3
theorem und_eq {x : Int} (h : 0 ≤ x ∧ x ≤ 5) : und (ix x) = if x = 0 then -1 else if x ≤ 2 then 0 else if x = 3 then 1 else 2 := by
  have c : x = 0 ∨ x = 1 ∨ x = 2 ∨ x = 3 ∨ x = 4 ∨ x = 5 := by omega
  rcases c with rfl | rfl | rfl | rfl | rfl | rfl <;> rfl
theorem isOfKind_ok {a : Nat} {k kind : Int} {M : Mem} {Q : Bool → Prop} (t0 : M a 0 = kind) (hk : 0 ≤ kind ∧ kind ≤ 5) (h1 : 0 ≤ k ∧ k ≤ 5) (h : Q (okK kind k)) : wp_X0_isOfKind a k M Q := by
  unfold wp_X0_isOfKind
  rw [t0]
  refine ⟨fun x2 x3 => -1 ≤ x2 ∧ x2 ≤ 5 ∧ 0 ≤ x3 ∧ x3 + (dK x2 : Int) ≤ 3 ∧ okK x2 k = okK kind k, fun x2 _ => dK x2, ⟨by omega, by omega, by omega, ?_, rfl⟩, ?_⟩
  · unfold dK
    split
    · omega
    split
    · omega
    split <;> omega
  rintro x2 x3 ⟨i1, i2, i3, i4, i5⟩
  unfold wp_X0_isOfKind_B7
  rw [wl_6, wm_1, w32_id (z := x2) (by omega) (by omega), w32_id (z := x3) (by omega) (by omega), w32_id (z := k) (by omega) (by omega)]
  rw [← i5] at h
  refine ⟨fun u => by omega, fun u => ⟨fun u2 => ?_, fun u2 => ⟨fun u3 => ⟨by omega, ?_⟩, fun u3 => ?_⟩⟩⟩
  · subst u2
    exact h
  · have e := und_eq (x := x2) (by omega)
    rw [e]
    have c : x2 = 0 ∨ x2 = 1 ∨ x2 = 2 ∨ x2 = 3 ∨ x2 = 4 ∨ x2 = 5 := by omega
    have c2 : k = 0 ∨ k = 1 ∨ k = 2 ∨ k = 3 ∨ k = 4 ∨ k = 5 := by omega
    rw [← i5]
    clear e i5 h
    rcases c with rfl | rfl | rfl | rfl | rfl | rfl <;> rcases c2 with rfl | rfl | rfl | rfl | rfl | rfl <;> first
      | exact absurd rfl u3
      | (refine ⟨⟨by decide, by decide, by omega, ?_, by decide⟩, by dsimp only; decide⟩; simp [dK] at i4 ⊢; omega)
  · have : okK x2 k = true := decide_eq_true ⟨u2, Or.inl (by omega)⟩
    rw [this] at h
    exact h
theorem taken_gen {b : Nat} {k kind : Int} {M : Mem} {Q : Int → Prop} (hb5 : b < 5) (hk : 0 ≤ kind ∧ kind ≤ 5) (h1 : 0 ≤ k ∧ k ≤ 5) (h : Q (if okK kind k then M 193 (5 + b) else -13)) : wp_X12_taken_L27 189 Q M (b : Int) k kind := by
  refine ⟨fun x3 => 0 ≤ x3 ∧ x3 ≤ 5 ∧ okK x3 k = okK kind k, fun x3 => dK x3, ⟨by omega, by omega, rfl⟩, ?_⟩
  rintro x3 ⟨i1, i2, i5⟩
  unfold wp_X12_taken_B27 wp_X12_taken_b44
  rw [w32_id (z := x3) (by omega) (by omega), w32_id (z := k) (by omega) (by omega)]
  rw [← i5] at h
  refine ⟨fun u => ⟨fun u2 => absurd u u2, fun _ => of_ok (w := 1) rfl hb5 (by decide) ?_⟩, fun u => ⟨fun u2 => ⟨fun u3 => ?_, fun u3 => absurd u u3⟩, fun u2 => ?_⟩⟩
  · have : okK x3 k = true := decide_eq_true ⟨by omega, Or.inl u.symm⟩
    rw [this] at h
    exact h
  · have : okK x3 k = false := decide_eq_false (by omega)
    rw [this] at h
    exact h
  · unfold wp_X12_above
    rw [wl_3, w32_id (z := x3) (by omega) (by omega)]
    have c : x3 = 1 ∨ x3 = 2 ∨ x3 = 3 ∨ x3 = 4 ∨ x3 = 5 := by omega
    have c2 : k = 0 ∨ k = 1 ∨ k = 2 ∨ k = 3 ∨ k = 4 ∨ k = 5 := by omega
    rw [← i5]
    clear i5 h
    rcases c with rfl | rfl | rfl | rfl | rfl <;> rcases c2 with rfl | rfl | rfl | rfl | rfl | rfl <;> first
      | exact absurd rfl u
      | exact ⟨fun _ => ⟨fun _ => by decide, fun z => absurd (by decide) z⟩, fun z => absurd (by decide) z⟩
      | exact ⟨fun _ => ⟨fun z => absurd z (by decide), fun _ => by decide⟩, fun z => absurd (by decide) z⟩
      | exact ⟨fun z => absurd rfl z, fun _ => by decide⟩
theorem step_10 {DK : Mem → Prop} : Step_10 (Inv DK) := by
  intro M hI a1 a2 h1 h2
  unfold wp_X11_taken wp_X11_isKind
  obtain ⟨n1, n2⟩ := Inv_n hI
  have bad : ¬ ((0 ≤ a1 ∧ a1 < M 189 3) ∧ (0 ≤ a2 ∧ a2 ≤ 5)) → wp_X12_taken 189 a1 a2 M (fun r2 => w32 (-2) = w32 r2) := by
    intro e
    unfold wp_X12_taken
    rw [isBond_iff rfl n2 h1]
    refine dcf (fun z => ?_) (fun _ => rfl)
    rw [X12_within_iff, wl_0, wl_5, w32_R h2]
    exact dct (fun z2 => absurd ⟨z, z2⟩ e) (fun _ => rfl)
  rw [rtv_0_0, hasBond_iff n1 n2 h1]
  refine dcf (fun e => ?_) (fun e => bad (fun z => e z.1))
  rw [X11_within_iff, wl_0, wl_5, w32_R h2]
  refine dct (fun e2 => ?_) (fun e2 => bad (fun z => e2 z.2))
  obtain ⟨b, rfl, hb⟩ := natOfI e
  have hb5 : b < 5 := by omega
  obtain ⟨-, hBt, hk, -⟩ := BookR_t hI.1 hb
  have t0 := hBt 0 (by decide)
  have t1 := hBt 1 (by decide)
  rw [show 5 * 0 + b = b by omega] at t0
  rw [show 5 * 1 + b = 5 + b by omega] at t1
  rw [rtv_1_3, ixn (show b < 2147483648 by omega), rt_8 b hb5]
  refine ⟨inbn LN_8 hb5, isOfKind_ok (kind := M 193 b) t0 hk e2 ?_⟩
  have key : ∀ r : Int, r = (if okK (M 193 b) a2 then M 193 (5 + b) else -13) → wp_X12_taken 189 (b : Int) a2 M (fun r2 => w32 r = w32 r2) := by
    intro r c
    unfold wp_X12_taken
    rw [isBond_iff rfl n2 h1]
    refine dcf (fun z => ?_) (fun z => absurd e z)
    rw [X12_within_iff, wl_0, wl_5, w32_R h2]
    refine dct (fun _ => of_ok (w := 0) rfl hb5 (by decide) ?_) (fun z2 => absurd e2 z2)
    rw [show 5 * 0 + b = b by omega]
    exact taken_gen hb5 hk e2 (by rw [c])
  refine ⟨fun z => key _ ?_, fun z => ⟨inbn LN_8 hb5, key _ ?_⟩⟩
  · rw [z]; rfl
  · rw [z]; exact t1
/-! counts -/
def sumN (f : Nat → Int) : Nat → Int
  | 0 => 0
  | n + 1 => sumN f n + f n
theorem step_27 {DK : Mem → Prop} : Step_27 (Inv DK) := by
  intro M hI a1 h1
  obtain ⟨n1, n2⟩ := Inv_n hI
  have hBk := fun (k : Nat) (hk : k ≤ 60) => InvB_R hI.1 hk
  obtain ⟨hB, hK, hR, -⟩ := id hI
  obtain ⟨k1, k2, k3, k4, k5, k6⟩ := hK
  have c1 : cntP (fun k => decide (M 3 k ≠ M 2 1)) 60 = cnt (M 190) 60 := by
    rw [k1]
    exact cntne_due fun k hk => ⟨(hBk k hk).1, (hBk k hk).2.1⟩
  have c2 : cntP (fun k => decide (M 5 k ≠ M 4 1)) 60 = cnt (M 191) 60 := by
    rw [k3]
    exact cntne_m fun k hk => ⟨(hBk k hk).2.2.2.1, (hBk k hk).2.2.2.2.1⟩
  have c3 : cntP (fun k => decide (M 7 k ≠ M 6 1)) 60 = cnt (M 192) 60 := by
    rw [k5]
    exact cntne_m fun k hk => ⟨(hBk k hk).2.2.2.2.2.2.1, (hBk k hk).2.2.2.2.2.2.2.1⟩
  have r1 : ∀ j, j ≤ 60 → R32 (M 3 j) ∧ R32 (M 5 j) ∧ R32 (M 7 j) ∧ R32 (M 191 j) ∧ R32 (M 192 j) := fun j hj => by
    obtain ⟨u1, u2, u3, u4, u5, u6, u7, u8, u9⟩ := hBk j hj
    exact ⟨⟨by omega, by omega⟩, ⟨by omega, by omega⟩, ⟨by omega, by omega⟩, ⟨by omega, by omega⟩, ⟨by omega, by omega⟩⟩
  have hr0 : M 189 5 = (cnt (M 190) 60 : Int) := hR.1
  have held : ∀ Q : Int → Prop, Q (sumN (fun b => M 193 (30 + b)) (M 189 3).toNat) → wp_X12_count_L64 189 Q M 0 0 ∧ wp_X1_countHeld 1 M Q := by
    intro Q hQ
    obtain ⟨n, hn⟩ : ∃ n : Nat, M 189 3 = (n : Int) := ⟨(M 189 3).toNat, by omega⟩
    rw [hn, show ((n : Int)).toNat = n by omega] at hQ
    refine ⟨⟨fun x2 x3 => ∃ b : Nat, x3 = (b : Int) ∧ b ≤ n ∧ x2 = sumN (fun b => M 193 (30 + b)) b, fun _ x3 => ((n : Int) - x3).toNat, ⟨0, rfl, Nat.zero_le _, rfl⟩, ?_⟩, ⟨fun x1 x2 => ∃ b : Nat, x2 = (b : Int) ∧ b ≤ n ∧ x1 = sumN (fun b => M 193 (30 + b)) b, fun _ x2 => ((n : Int) - x2).toNat, ⟨0, rfl, Nat.zero_le _, rfl⟩, ?_⟩⟩
    · rintro x2 x3 ⟨b, rfl, hb, rfl⟩
      unfold wp_X12_count_B64
      dsimp only
      rw [hn, w32n (show n < 2147483648 by omega), w32n (show b < 2147483648 by omega)]
      refine ⟨fun u => ?_, fun u => of_ok (w := 6) rfl (by omega) (by decide) ⟨⟨b + 1, by omega, by omega, rfl⟩, by omega⟩⟩
      rw [show b = n by omega]; exact hQ
    · rintro x1 x2 ⟨b, rfl, hb, rfl⟩
      unfold wp_X1_countHeld_B4
      dsimp only
      rw [n1, hn, w32n (show n < 2147483648 by omega), w32n (show b < 2147483648 by omega), ixn (show b < 2147483648 by omega), rtv_1_3]
      refine ⟨fun u => ?_, fun u => ⟨inbn LN_8 (by omega), ?_⟩⟩
      · rw [show b = n by omega]; exact hQ
      · rintro v23 rfl
        have hb' : (b : Int) < M 189 3 := by omega
        have t6 := (BookR_t hB hb').2.1 6 (by decide)
        rw [rt_8 b (by omega), t6]
        exact ⟨⟨b + 1, by omega, by omega, rfl⟩, by omega⟩
  have key : ∀ r : Int, (a1 = 0 → r = M 189 5) → (a1 = 1 → r = (cnt (M 191) 60 : Int)) → (a1 = 2 → r = (cnt (M 192) 60 : Int)) → (a1 = 3 → r = M 189 3) → (a1 = 4 → r = sumN (fun b => M 193 (30 + b)) (M 189 3).toNat) → ((a1 < 0 ∨ 4 < a1) → r = -2) → wp_X12_count 189 a1 M (fun r2 => w32 r = w32 r2) := by
    intro r q0 q1 q2 q3 q4 q5
    unfold wp_X12_count
    rw [w32_R h1, rtv_189_1, rtv_189_2]
    refine ⟨fun z => by rw [q0 z], fun z => X12_many_ok LN_191.1 (fun j hj => (r1 j hj).2.2.2.1) (by rw [q1 z]; rfl), fun z => X12_many_ok LN_192.1 (fun j hj => (r1 j hj).2.2.2.2) (by rw [q2 z]; rfl), fun z => by rw [q3 z], fun z => (held _ (by rw [q4 z])).1, fun z => by rw [q5 z]⟩
  unfold wp_X11_count
  rw [w32_R h1, rtv_0_0, rtv_1_0, rtv_1_1, rtv_1_2]
  refine ⟨fun z => X2_countTold_ok rtv_2_0 LN_3.1 (fun j hj => (r1 j hj).1) (by rw [k1]; exact R32_i (by decide) (by decide)) (key _ (fun _ => by rw [c1, hr0]) ?_ ?_ ?_ ?_ ?_), fun z => X2_countTold_ok rtv_4_0 LN_5.1 (fun j hj => (r1 j hj).2.1) (by rw [k3]; exact R32_i (by decide) (by decide)) (key _ ?_ (fun _ => by rw [c2]) ?_ ?_ ?_ ?_), fun z => X2_countTold_ok rtv_6_0 LN_7.1 (fun j hj => (r1 j hj).2.2.1) (by rw [k5]; exact R32_i (by decide) (by decide)) (key _ ?_ ?_ (fun _ => by rw [c3]) ?_ ?_ ?_), fun z => key _ ?_ ?_ ?_ (fun _ => n1) ?_ ?_, fun z => (held _ (key _ ?_ ?_ ?_ ?_ (fun _ => rfl) ?_)).2, fun z => key _ ?_ ?_ ?_ ?_ ?_ (fun _ => rfl)⟩ <;> intro z2 <;> exfalso <;> clear c1 c2 c3 hr0 <;> omega
