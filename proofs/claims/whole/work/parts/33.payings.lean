theorem div_step {m st : Nat} (h : 1 ≤ st) : ((m + 1) % st = 0 ↔ m + 1 = (m / st + 1) * st) ∧ (m + 1) / st = m / st + (if (m + 1) % st = 0 then 1 else 0) := by
  have e := Nat.div_add_mod m st
  have hr := Nat.mod_lt m (show 0 < st by omega)
  generalize m / st = q at *
  generalize m % st = r at *
  subst e
  rw [Nat.add_assoc, Nat.mul_add_mod, Nat.mul_add_div (by omega), Nat.add_mul, Nat.one_mul, Nat.mul_comm q st]
  by_cases z : r + 1 = st
  · rw [z, Nat.mod_self, Nat.div_self (by omega)]
    simp
  · rw [Nat.mod_eq_of_lt (by omega), Nat.div_eq_of_lt (by omega)]
    have : ¬ (r + 1 = 0) := by omega
    simp [this]
    omega
def payB (kind coupon pay : Int) (e : Bool) (q ρ : Int) : Int :=
  if kind = 0 then coupon + (if e then pay else 0)
  else if kind = 1 then (if e then pay else 0)
  else if kind = 2 then coupon + q + (if e then pay else 0)
  else if kind = 3 then (if q = 0 then pay / 2 else 0) + (if e then pay - pay / 2 else 0)
  else if kind = 4 then coupon + q + coupon * ρ + (if e then pay else 0)
  else coupon + q + (if e then pay else 0)
theorem payingOn_ok {a : Nat} {day q ρ kind coupon en pay : Int} {M : Mem} {Q : Int → Prop} (t0 : M a 0 = kind) (t2 : M a 2 = coupon) (t4 : M a 4 = en) (t5 : M a 5 = pay) (hk : 0 ≤ kind ∧ kind ≤ 5) (he : 1 ≤ en ∧ en ≤ 60) (hp : 1 ≤ pay ∧ pay ≤ 60) (hd : 1 ≤ day ∧ day ≤ 60) (hq : 0 ≤ q ∧ q ≤ 60) (h : Q (payB kind coupon pay (decide (day = en)) q ρ)) : wp_X0_payingOn a day q ρ M Q := by
  unfold wp_X0_payingOn
  rw [t4, w32_id (z := day) (by omega) (by omega), w32_id (z := en) (by omega) (by omega)]
  have key : ∀ e : Int, (e = if day = en then pay else 0) → wp_X0_payingOn_b16 a Q M e day q ρ := by
    intro e hE
    unfold wp_X0_payingOn_b16 wp_X0_payingOn_b83
    rw [t0, t2, t4, t5, wl_2, w32_id (z := kind) (by omega) (by omega), w32_id (z := q) (by omega) (by omega), w32_id (z := pay) (by omega) (by omega), w32_id (z := day) (by omega) (by omega), w32_id (z := en) (by omega) (by omega), Int.tdiv_eq_ediv_of_nonneg (by omega)]
    unfold payB at h
    simp only [decide_eq_true_eq] at h
    rw [← hE] at h
    have c : kind = 0 ∨ kind = 1 ∨ kind = 2 ∨ kind = 3 ∨ kind = 4 ∨ kind = 5 := by omega
    rcases c with rfl | rfl | rfl | rfl | rfl | rfl
    · refine ⟨fun z => by omega, fun z => by omega, fun z => by omega, fun z => by omega, fun z => by omega, fun _ => h⟩
    · refine ⟨fun _ => h, fun z => by omega, fun z => by omega, fun z => by omega, fun z => by omega, fun z => by omega⟩
    · refine ⟨fun z => by omega, fun _ => h, fun z => by omega, fun z => by omega, fun z => by omega, fun z => by omega⟩
    · refine ⟨fun z => by omega, fun z => by omega, fun _ => ⟨fun u => ⟨fun v => ?_, fun v => ⟨by decide, ?_⟩⟩, fun u => ⟨by decide, fun v => ?_, fun v => ⟨by decide, ?_⟩⟩⟩, fun z => by omega, fun z => by omega, fun z => by omega⟩
      · simpa [u, v] using h
      · have v : day = en := by omega
        simpa [u, v] using h
      · have u : q = 0 := by omega
        simpa [u, v] using h
      · have u : q = 0 := by omega
        have v : day = en := by omega
        simpa [u, v] using h
    · refine ⟨fun z => by omega, fun z => by omega, fun z => by omega, fun _ => h, fun z => by omega, fun z => by omega⟩
    · refine ⟨fun z => by omega, fun z => by omega, fun z => by omega, fun z => by omega, fun _ => h, fun z => by omega⟩
  refine ⟨fun z => key 0 ?_, fun z => ?_⟩
  · rw [if_neg z]
  · rw [t5]
    exact key pay (by rw [if_pos (by omega)])
theorem isCalledOn_ok {a : Nat} {day ρ kind en : Int} {M : Mem} {Q : Bool → Prop} (t0 : M a 0 = kind) (t4 : M a 4 = en) (hk : 0 ≤ kind ∧ kind ≤ 5) (he : 1 ≤ en ∧ en ≤ 60) (hd : 1 ≤ day ∧ day ≤ 60) (hρ : 0 ≤ ρ ∧ ρ ≤ 9) (h : Q (decide (kind = 5 ∧ ρ = 0 ∧ day < en))) : wp_X0_isCalledOn a day ρ M Q := by
  unfold wp_X0_isCalledOn
  rw [t0, t4, wl_5, w32_id (z := kind) (by omega) (by omega), w32_id (z := ρ) (by omega) (by omega), w32_id (z := en) (by omega) (by omega), w32_id (z := day) (by omega) (by omega)]
  refine ⟨fun z => ?_, fun z => ⟨fun z2 => ?_, fun z2 => ⟨fun z3 => ?_, fun z3 => ?_⟩⟩⟩
  · rw [decide_eq_false (by omega)] at h; exact h
  · rw [decide_eq_false (by omega)] at h; exact h
  · rw [decide_eq_false (by omega)] at h; exact h
  · rw [decide_eq_true (by omega)] at h; exact h
theorem payS_at {kind coupon pay : Int} {st en : Nat} {R : F1} (hk : 0 ≤ kind ∧ kind ≤ 4) {m : Nat} (hst : 1 ≤ st) (h1 : m + 1 ≤ en) (h2 : m + 1 = en ∨ (m + 1) % st = 0) : payS kind coupon st en pay R (m + 1) = payB kind coupon pay (decide (((m + 1 : Nat) : Int) = (en : Int))) ((m / st : Nat) : Int) (R (m + 1)) := by
  have hJ : (if m + 1 = en then (en - 1) / st else (m + 1) / st - 1 : Nat) = m / st := by
    by_cases q : m + 1 = en
    · rw [if_pos q, ← q]; rfl
    · rw [if_neg q, (div_step hst).2, if_pos (by omega)]; exact Nat.add_sub_cancel _ _
  have hE : decide (((m + 1 : Nat) : Int) = (en : Int)) = decide (m + 1 = en) := by
    by_cases q : m + 1 = en
    · simp [q]
    · have : ¬ ((m + 1 : Nat) : Int) = (en : Int) := by omega
      rw [decide_eq_false q, decide_eq_false this]
  unfold payS payB
  rw [if_neg (by omega), hJ, hE]
  generalize ((m / st : Nat) : Int) = J
  simp only [decide_eq_true_eq]
  have c : kind = 0 ∨ kind = 1 ∨ kind = 2 ∨ kind = 3 ∨ kind = 4 := by omega
  rcases c with rfl | rfl | rfl | rfl | rfl
  · simp
  · simp
  · simp; omega
  · simp
    by_cases q : m + 1 = en <;> simp [q] <;> split <;> omega
  · simp; omega
theorem payS_5 {coupon pay : Int} {st en : Nat} {R : F1} {m : Nat} (hst : 1 ≤ st) (h1 : m + 1 ≤ en) (h2 : m + 1 = en ∨ (m + 1) % st = 0) (h3 : m + 1 ≤ calledUp R st en 60) : payS 5 coupon st en pay R (m + 1) = coupon + ((m / st : Nat) : Int) + if m + 1 = calledUp R st en 60 then pay else 0 := by
  have hJ : (if m + 1 = en then (en - 1) / st else (m + 1) / st - 1 : Nat) = m / st := by
    by_cases q : m + 1 = en
    · rw [if_pos q, ← q]; rfl
    · rw [if_neg q, (div_step hst).2, if_pos (by omega)]; exact Nat.add_sub_cancel _ _
  unfold payS
  rw [if_neg (by omega), hJ]
  generalize ((m / st : Nat) : Int) = J
  simp
  intro q
  omega
theorem payS_off {kind coupon pay : Int} {st en : Nat} {R : F1} {m : Nat} (h : m > en ∨ (m ≠ en ∧ m % st ≠ 0)) : payS kind coupon st en pay R m = 0 := by
  unfold payS
  rw [if_pos h]
theorem payS_behind {coupon pay : Int} {st en : Nat} {R : F1} {m : Nat} (h : m > calledUp R st en 60) : payS 5 coupon st en pay R m = 0 := by
  unfold payS
  split
  · rfl
  · simp [h]
theorem layPayings_gen {a f g : Nat} (n1 : f ≠ a) (n2 : f ≠ g) (lf : LN f 61) (lg : LN g 61) {M : Mem} {Q : Mem → Prop} {kind coupon pay : Int} {st en : Nat} {R : F1} (hk : 0 ≤ kind ∧ kind ≤ 5) (hst : 1 ≤ st ∧ st ≤ 30) (he : 1 ≤ en ∧ en ≤ 60) (hp : 1 ≤ pay ∧ pay ≤ 60) (t0 : M a 0 = kind) (t2 : M a 2 = coupon) (t3 : M a 3 = (st : Int)) (t4 : M a 4 = (en : Int)) (t5 : M a 5 = pay) (hR : ∀ k, 1 ≤ k → k ≤ 60 → M g k = R k ∧ 0 ≤ R k ∧ R k ≤ 9)
    (h : ∀ M' : Mem, (∀ k, 1 ≤ k → k ≤ 60 → M' f k = payS kind coupon st en pay R k) → (∀ k j, k ≠ f → M' k j = M k j) → Q M') : wp_X0_layPayings a f g M Q := by
  unfold wp_X0_layPayings
  refine fill_ok lf (fun M2 z1 z2 => ?_)
  have fr0 : ∀ k j, k ≠ f → M2 k j = M k j := fun k j hk => z2 k j (fun q => hk q.1)
  rw [fr0 a 3 (fun q => n1 q.symm), t3]
  refine ⟨fun M' x3 x4 x5 => ∃ m : Nat, x5 = ((m + 1 : Nat) : Int) ∧ m ≤ en ∧ (∀ k j, k ≠ f → M' k j = M k j) ∧ (∀ j, 1 ≤ j → j ≤ m → M' f j = payS kind coupon st en pay R j) ∧ (∀ j, m < j → j ≤ 60 → M' f j = 0) ∧ (m < en → x3 = ((m / st : Nat) : Int) ∧ x4 = (((m / st + 1) * st : Nat) : Int)) ∧ (kind = 5 → ∀ j, 1 ≤ j → j ≤ m → ¬ (j % st = 0 ∧ j < en ∧ R j = 0)), fun _ _ _ x5 => (61 - x5).toNat, ⟨0, rfl, Nat.zero_le _, fr0, fun j a b => by omega, fun j a b => z1 j (by omega), fun _ => ?_, fun _ j a b => by omega⟩, ?_⟩
  · rw [Nat.zero_div]; simp
  rintro M1 x3 x4 x5 ⟨m, rfl, hm, f1, f2, f3, f4, f5⟩
  unfold wp_X0_layPayings_B16
  dsimp only
  have g0 := f1 a 0 (fun q => n1 q.symm)
  have g2 := f1 a 2 (fun q => n1 q.symm)
  have g3 := f1 a 3 (fun q => n1 q.symm)
  have g4 := f1 a 4 (fun q => n1 q.symm)
  have g5 := f1 a 5 (fun q => n1 q.symm)
  rw [t0] at g0
  rw [t2] at g2
  rw [t3] at g3
  rw [t4] at g4
  rw [t5] at g5
  rw [g4, w32n (show m + 1 < 2147483648 by omega), w32n (show en < 2147483648 by omega)]
  refine ⟨fun u => ?_, fun u => ?_⟩
  · have hme : m = en := by omega
    subst hme
    refine h M1 (fun k k1 k2 => ?_) f1
    by_cases q : k ≤ m
    · exact f2 k k1 q
    · rw [f3 k (by omega) k2, payS_off (by omega)]
  have hm1 : m + 1 ≤ en := by omega
  obtain ⟨rfl, rfl⟩ := f4 (by omega)
  have hd := div_step (m := m) hst.1
  have hqm : m / st ≤ m := Nat.div_le_self m st
  have hmr := hR (m + 1) (by omega) (by omega)
  have hq60 : ((m / st : Nat) : Int) ≤ 60 := Int.le_trans (Int.ofNat_le.mpr hqm) (by omega)
  have hb : (m / st + 1) * st ≤ 60 + 30 := by
    have h1 := Nat.div_mul_le_self m st
    have e : (m / st + 1) * st = m / st * st + st := by rw [Nat.add_mul, Nat.one_mul]
    omega
  generalize hX : (m / st + 1) * st = X at *
  have pay : (m + 1 = en ∨ (m + 1) % st = 0) → wp_X0_layPayings_b41 a f g Q (fun M' x3' x4' x5' => (∃ m : Nat, x5' = ((m + 1 : Nat) : Int) ∧ m ≤ en ∧ (∀ k j, k ≠ f → M' k j = M k j) ∧ (∀ j, 1 ≤ j → j ≤ m → M' f j = payS kind coupon st en pay R j) ∧ (∀ j, m < j → j ≤ 60 → M' f j = 0) ∧ (m < en → x3' = ((m / st : Nat) : Int) ∧ x4' = (((m / st + 1) * st : Nat) : Int)) ∧ (kind = 5 → ∀ j, 1 ≤ j → j ≤ m → ¬ (j % st = 0 ∧ j < en ∧ R j = 0))) ∧ (61 - x5').toNat < (61 - ((m + 1 : Nat) : Int)).toNat) M1 ((m / st : Nat) : Int) (X : Int) ((m + 1 : Nat) : Int) := by
    intro hcase
    unfold wp_X0_layPayings_b41 wp_X0_layPayings_b95
    rw [ixn (show m + 1 < 2147483648 by omega), f1 g _ (fun q => n2 q.symm), hmr.1]
    refine ⟨inbn lg (by omega), ?_⟩
    refine payingOn_ok (en := (en : Int)) g0 g2 g4 g5 hk (by omega) hp (by omega) ⟨Int.natCast_nonneg _, hq60⟩ ?_
    refine ⟨inbn lf (by omega), ?_⟩
    rintro M55 rfl
    refine ⟨inbn lg (by omega), ?_⟩
    rw [st2_off _ _ (fun q => n2 q.symm), f1 g _ (fun q => n2 q.symm), hmr.1]
    have o0 : ∀ j z, st2 M1 f (m + 1) z a j = M1 a j := fun j z => by rw [st2_off _ _ (fun q => n1 q.symm)]
    refine isCalledOn_ok (kind := kind) (en := (en : Int)) (by rw [o0]; exact g0) (by rw [o0]; exact g4) hk (by omega) (by omega) hmr.2 ?_
    refine ⟨fun w => ?_, fun w => ?_⟩
    · have w := of_decide_eq_false w
      refine ⟨⟨m + 1, by omega, hm1, fun k j hk => by rw [st2_off _ _ hk]; exact f1 k j hk, fun j j1 j2 => ?_, fun j j1 j2 => ?_, fun hlt => ?_, fun h5 j j1 j2 => ?_⟩, by omega⟩
      · by_cases q : j = m + 1
        · subst q
          rw [st2_s]
          by_cases k5 : kind = 5
          · subst k5
            have hno : calledUp R st en (m + 1) = en := calledUp_no _ (fun j a b => by
              by_cases q : j = m + 1
              · subst q; intro z; exact w ⟨rfl, z.2.2, by omega⟩
              · exact f5 rfl j a (by omega))
            have hge : m + 1 ≤ calledUp R st en 60 := by
              rcases Nat.lt_or_ge (calledUp R st en 60) (m + 1) with q | q
              · exfalso
                have : ∀ d, m + 1 + d ≤ 60 → m + 1 ≤ calledUp R st en (m + 1 + d) := by
                  intro d
                  induction d with
                  | zero => intro _; rw [Nat.add_zero, hno]; exact hm1
                  | succ d ih =>
                    intro hd
                    have := ih (by omega)
                    show m + 1 ≤ calledUp R st en (m + 1 + d + 1)
                    unfold calledUp
                    split
                    · split <;> omega
                    · exact this
                have := this (60 - (m + 1)) (by omega)
                rw [show m + 1 + (60 - (m + 1)) = 60 by omega] at this
                omega
              · exact q
            rw [payS_5 hst.1 hm1 hcase hge]
            unfold payB
            simp only [show ¬ (5 : Int) = 0 by decide, show ¬ (5 : Int) = 1 by decide, show ¬ (5 : Int) = 2 by decide, show ¬ (5 : Int) = 3 by decide, show ¬ (5 : Int) = 4 by decide, if_false, decide_eq_true_eq]
            by_cases q : m + 1 = en
            · have : m + 1 = calledUp R st en 60 := by
                have := calledUp_le (R := R) (step := st) (en := en) 60
                omega
              rw [if_pos this, if_pos (by omega)]
            · have : ¬ m + 1 = calledUp R st en 60 := by
                intro e
                have hz : ∀ n, m + 1 ≤ n → calledUp R st en n = m + 1 → calledUp R st en n < en → (m + 1) % st = 0 ∧ m + 1 < en ∧ R (m + 1) = 0 := by
                  intro n
                  induction n with
                  | zero => intro a; omega
                  | succ n ih =>
                    intro a b c
                    by_cases z : m + 1 = n + 1
                    · have : n = m := by omega
                      subst this
                      rw [hno] at b
                      omega
                    · have hd2 : m + 1 ≤ n := by omega
                      unfold calledUp at b
                      split at b
                      · split at b
                        · rename_i z1 z2; exact ih hd2 b z2
                        · rename_i z1 z2; omega
                      · exact ih hd2 b (by omega)
                have := hz 60 (by omega) e.symm (by omega)
                exact w ⟨rfl, this.2.2, by omega⟩
              rw [if_neg this, if_neg (by omega)]
          · rw [payS_at (by omega) hst.1 hm1 hcase]
        · rw [st2_n _ _ (by omega)]
          exact f2 j j1 (by omega)
      · rw [st2_n _ _ (by omega)]
        exact f3 j (by omega) j2
      · have hz : (m + 1) % st = 0 := by omega
        rw [hd.2, if_pos hz, o0, g3]
        have e1 : (m / st + 1 + 1) * st = X + st := by rw [Nat.add_mul (m / st + 1), Nat.one_mul, hX]
        rw [e1]
        exact ⟨rfl, rfl⟩
      · by_cases q : j = m + 1
        · subst q; intro z; exact w ⟨h5, z.2.2, by omega⟩
        · exact f5 h5 j j1 (by omega)
    · obtain ⟨w1, w2, w3⟩ := of_decide_eq_true w
      subst w1
      refine ⟨inbn lf (by omega), inbn lf (by omega), ?_⟩
      rintro M79 rfl
      have hz : (m + 1) % st = 0 := by omega
      have hc := calledUp_at (R := R) (step := st) (en := en) (m := m + 1) (by omega) (fun j a b => f5 rfl j a (by omega)) ⟨hz, by omega, w2⟩ 60 (by omega)
      refine h _ (fun j j1 j2 => ?_) (fun k j hk => by rw [st2_off _ _ hk, st2_off _ _ hk]; exact f1 k j hk)
      rcases Nat.lt_trichotomy j (m + 1) with q | q | q
      · rw [st2_n _ _ (by omega), st2_n _ _ (by omega)]
        exact f2 j j1 (by omega)
      · subst q
        rw [st2_s, st2_s, o0, g5, payS_5 hst.1 hm1 hcase (by omega), if_pos hc.symm]
        unfold payB
        have : ¬ ((m + 1 : Nat) : Int) = (en : Int) := by omega
        rw [decide_eq_false this]
        simp
      · rw [st2_n _ _ (by omega), st2_n _ _ (by omega), f3 j (by omega) j2, payS_behind (by omega)]
  rw [w32n (show X < 2147483648 by omega)]
  refine ⟨fun u2 => pay (Or.inr (hd.1.mpr (by omega))), fun u2 => ⟨fun u3 => ?_, fun u3 => pay (Or.inl (by omega))⟩⟩
  unfold wp_X0_layPayings_b95
  have hnz : ¬ (m + 1) % st = 0 := fun z => u2 (by have := hd.1.mp z; omega)
  refine ⟨⟨m + 1, by omega, hm1, f1, fun j j1 j2 => ?_, fun j j1 j2 => f3 j (by omega) j2, fun hlt => ?_, fun h5 j j1 j2 => ?_⟩, by omega⟩
  · by_cases q : j = m + 1
    · subst q
      rw [f3 _ (by omega) (by omega), payS_off (Or.inr ⟨by omega, hnz⟩)]
    · exact f2 j j1 (by omega)
  · rw [hd.2, if_neg hnz, Nat.add_zero, hX]
    exact ⟨rfl, rfl⟩
  · by_cases q : j = m + 1
    · subst q; intro z; exact hnz z.1
    · exact f5 h5 j j1 (by omega)
