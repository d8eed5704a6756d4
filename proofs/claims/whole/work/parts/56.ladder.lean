/-! ladders -/
theorem lastR_pos {C : Nat → Nat} {p : F1} {m i : Nat} : ∀ {n : Nat}, lastR C p m n = (i : Int) → 0 < atR C p m i ∧ i < n
  | 0, h => by unfold lastR at h; omega
  | n + 1, h => by
    unfold lastR at h
    by_cases q : 0 < atR C p m n
    · rw [if_pos q] at h
      have : i = n := by omega
      subst this
      exact ⟨q, by omega⟩
    · rw [if_neg q] at h
      have := lastR_pos h
      exact ⟨this.1, by omega⟩
/-- one rung of a ladder: pa what one of a bond pays there, la its last rung, rk the ranking -/
def manyS (need one : Int) : Int := (need + one - 1) / one
def needS (du : Int) (bo : F1) (pa : Nat → Int) (n : Nat) : Int := du - sumN (fun b => bo b * pa b) n
def foundS (la : Nat → Int) (rk : Nat → Nat) (n i : Nat) : Int := firstF (fun c => decide (la (rk c) = (i : Int))) n
def stepB (du : F1) (pa : Nat → Nat → Int) (la : Nat → Int) (rk : Nat → Nat) (n i : Nat) (s : F1 × Int) : F1 × Int :=
  if 0 < needS (du i) s.1 (fun b => pa b i) n then
    (if foundS la rk n i = -1 then (s.1, s.2 + needS (du i) s.1 (fun b => pa b i) n)
     else (updI s.1 (rk (foundS la rk n i).toNat) (manyS (needS (du i) s.1 (fun b => pa b i) n) (pa (rk (foundS la rk n i).toNat) i)), s.2))
  else s
def buyS (du : F1) (pa : Nat → Nat → Int) (la : Nat → Int) (rk : Nat → Nat) (n N : Nat) : Nat → F1 × Int
  | 0 => (fun _ => 0, 0)
  | m + 1 => stepB du pa la rk n (N - 1 - m) (buyS du pa la rk n N m)
/-- what bounds it: n bonds, N rungs -/
def LadOK (du : F1) (pa : Nat → Nat → Int) (la : Nat → Int) (rk : Nat → Nat) (n N : Nat) : Prop :=
  n ≤ 5 ∧ N ≤ 5 ∧ (∀ i, i < N → 0 ≤ du i ∧ du i ≤ 99) ∧ (∀ b i, b < n → 0 ≤ pa b i ∧ pa b i ≤ 18000) ∧ (∀ b i, b < n → la b = ((i : Nat) : Int) → 0 < pa b i ∧ i < N) ∧ (∀ b, b < n → -1 ≤ la b ∧ la b < (N : Int)) ∧ ∀ c, c < n → rk c < n
theorem foundS_rk {du : F1} {pa : Nat → Nat → Int} {la : Nat → Int} {rk : Nat → Nat} {n N : Nat} (h : LadOK du pa la rk n N) {i : Nat} (hf : foundS la rk n i ≠ -1) : rk (foundS la rk n i).toNat < n ∧ la (rk (foundS la rk n i).toNat) = (i : Int) := by
  have r := firstF_range (fun c => decide (la (rk c) = (i : Int))) n
  have hlt : (foundS la rk n i).toNat < n := by unfold foundS at *; omega
  refine ⟨h.2.2.2.2.2.2 _ hlt, ?_⟩
  -- the first that is found is one
  have key : ∀ m, firstF (fun c => decide (la (rk c) = (i : Int))) m ≠ -1 → la (rk (firstF (fun c => decide (la (rk c) = (i : Int))) m).toNat) = (i : Int) := by
    intro m
    induction m with
    | zero => intro z; exact absurd rfl z
    | succ m ih =>
      intro z
      have e : firstF (fun c => decide (la (rk c) = (i : Int))) (m + 1) = if firstF (fun c => decide (la (rk c) = (i : Int))) m ≠ -1 then firstF (fun c => decide (la (rk c) = (i : Int))) m else if decide (la (rk m) = (i : Int)) then (m : Int) else -1 := rfl
      rw [e] at z ⊢
      by_cases q : firstF (fun c => decide (la (rk c) = (i : Int))) m ≠ -1
      · rw [if_pos q]; exact ih q
      · rw [if_neg q] at z ⊢
        by_cases q2 : decide (la (rk m) = (i : Int)) = true
        · rw [if_pos q2]; exact of_decide_eq_true q2
        · rw [if_neg q2] at z; exact absurd rfl z
  exact key n hf
theorem manyS_range {need one : Int} (h1 : 0 < need ∧ need ≤ 99) (h2 : 1 ≤ one) : 1 ≤ manyS need one ∧ manyS need one ≤ 99 := by
  unfold manyS
  refine ⟨?_, ?_⟩
  · exact (Int.le_ediv_iff_mul_le (by omega)).mpr (by omega)
  · have h3 : need + one - 1 < (need + 1) * one := by
      have : need * 1 ≤ need * one := Int.mul_le_mul_of_nonneg_left h2 (by omega)
      rw [Int.add_mul, Int.one_mul]
      omega
    have := Int.ediv_lt_of_lt_mul (by omega) h3
    omega
theorem sumN_le_of {f : Nat → Int} {B : Int} {n : Nat} (hn : n ≤ 5) (hB : 0 ≤ B) (h : ∀ i, i < n → 0 ≤ f i ∧ f i ≤ B) : 0 ≤ sumN f n ∧ sumN f n ≤ 5 * B := by
  have := sumN_range h
  have h2 : B * (n : Int) ≤ B * 5 := Int.mul_le_mul_of_nonneg_left (by omega) hB
  omega
theorem needS_range {du : Int} {bo : F1} {pa : Nat → Int} {n : Nat} (hn : n ≤ 5) (hd : 0 ≤ du ∧ du ≤ 99) (hb : ∀ b, b < n → 0 ≤ bo b ∧ bo b ≤ 99) (hp : ∀ b, b < n → 0 ≤ pa b ∧ pa b ≤ 18000) : -10000000 ≤ needS du bo pa n ∧ needS du bo pa n ≤ 99 ∧ (∀ b, b < n → 0 ≤ bo b * pa b ∧ bo b * pa b ≤ 1782000) := by
  have hm : ∀ b, b < n → 0 ≤ bo b * pa b ∧ bo b * pa b ≤ 1782000 := fun b h => by
    have x := Int.mul_nonneg (hb b h).1 (hp b h).1
    have y := Int.mul_le_mul (hb b h).2 (hp b h).2 (hp b h).1 (by decide)
    omega
  have := sumN_le_of (f := fun b => bo b * pa b) (B := 1782000) hn (by decide) hm
  unfold needS
  exact ⟨by omega, by omega, hm⟩
theorem buyS_inv {du : F1} {pa : Nat → Nat → Int} {la : Nat → Int} {rk : Nat → Nat} {n N : Nat} (h : LadOK du pa la rk n N) : ∀ m, m ≤ N → (∀ b, b < n → 0 ≤ (buyS du pa la rk n N m).1 b ∧ (buyS du pa la rk n N m).1 b ≤ 99 ∧ (la b < ((N - m : Nat) : Int) → (buyS du pa la rk n N m).1 b = 0)) ∧ (∀ b, n ≤ b → (buyS du pa la rk n N m).1 b = 0) ∧ 0 ≤ (buyS du pa la rk n N m).2 ∧ (buyS du pa la rk n N m).2 ≤ 99 * (m : Int)
  | 0, _ => by
    unfold buyS
    exact ⟨fun b hb => ⟨Int.le_refl 0, (show (0 : Int) ≤ 99 by decide), fun _ => rfl⟩, fun _ _ => rfl, Int.le_refl 0, by omega⟩
  | m + 1, hm => by
    obtain ⟨i1, i2, i3, i4⟩ := buyS_inv h m (by omega)
    have hd := h.2.2.1 (N - 1 - m) (by omega)
    have nr := needS_range (du := du (N - 1 - m)) (bo := (buyS du pa la rk n N m).1) (pa := fun b => pa b (N - 1 - m)) h.1 hd (fun b hb => ⟨(i1 b hb).1, (i1 b hb).2.1⟩) (fun b hb => h.2.2.2.1 b _ hb)
    have e : buyS du pa la rk n N (m + 1) = stepB du pa la rk n (N - 1 - m) (buyS du pa la rk n N m) := rfl
    rw [e]
    unfold stepB
    generalize buyS du pa la rk n N m = s at *
    by_cases q : 0 < needS (du (N - 1 - m)) s.1 (fun b => pa b (N - 1 - m)) n
    · rw [if_pos q]
      by_cases q2 : foundS la rk n (N - 1 - m) = -1
      · rw [if_pos q2]
        exact ⟨fun b hb => ⟨(i1 b hb).1, (i1 b hb).2.1, fun z => (i1 b hb).2.2 (by omega)⟩, i2, by dsimp only; omega, by dsimp only; omega⟩
      · rw [if_neg q2]
        obtain ⟨f1, f2⟩ := foundS_rk h q2
        have hp := h.2.2.2.2.1 _ _ f1 f2
        have mr := manyS_range (need := needS (du (N - 1 - m)) s.1 (fun b => pa b (N - 1 - m)) n) (one := pa (rk (foundS la rk n (N - 1 - m)).toNat) (N - 1 - m)) (by omega) (by omega)
        refine ⟨fun b hb => ?_, fun b hb => ?_, i3, by dsimp only; omega⟩
        · dsimp only
          by_cases q3 : b = rk (foundS la rk n (N - 1 - m)).toNat
          · subst q3
            rw [updI_s]
            exact ⟨by omega, by omega, fun z => by omega⟩
          · rw [updI_n _ _ q3]
            exact ⟨(i1 b hb).1, (i1 b hb).2.1, fun z => (i1 b hb).2.2 (by omega)⟩
        · dsimp only
          rw [updI_n _ _ (by omega)]
          exact i2 b hb
    · rw [if_neg q]
      exact ⟨fun b hb => ⟨(i1 b hb).1, (i1 b hb).2.1, fun z => (i1 b hb).2.2 (by omega)⟩, i2, i3, by omega⟩
def costS (pr : Nat → Int) (bo : F1) (n : Nat) : Int := sumN (fun b => bo b * pr b) n
theorem sumN_upd {pr : Nat → Int} {bo : F1} {f : Nat} {z : Int} (h0 : bo f = 0) : ∀ {n : Nat}, sumN (fun b => updI bo f z b * pr b) n = sumN (fun b => bo b * pr b) n + if f < n then z * pr f else 0
  | 0 => rfl
  | n + 1 => by
    have ih := sumN_upd (pr := pr) (z := z) h0 (n := n)
    show sumN (fun b => updI bo f z b * pr b) n + updI bo f z n * pr n = sumN (fun b => bo b * pr b) n + bo n * pr n + _
    rw [ih]
    by_cases q : n = f
    · subst q
      rw [updI_s, if_neg (by omega), if_pos (by omega), h0, Int.zero_mul]
    · rw [updI_n _ _ q]
      by_cases q2 : f < n
      · rw [if_pos q2, if_pos (by omega)]; omega
      · rw [if_neg q2, if_neg (by omega)]; omega
/-- the class buys -/
theorem buy_ok {M : Mem} {d : F1} {pa : Nat → Nat → Int} {la pr : Nat → Int} {rk : Nat → Nat} {n N : Nat} (h : LadOK d pa la rk n N) (hpr : ∀ b, b < n → 1 ≤ pr b ∧ pr b ≤ 99) (h0 : M 27 0 = (N : Int)) (h4 : M 1 4 = (n : Int)) (hdu : ∀ i, i < N → M 29 i = d i) (hpa : ∀ b i, b < n → i < N → M (41 + b) i = pa b i) (hla : ∀ b, b < n → M 47 b = la b) (hrk : ∀ c, c < n → M 175 c = (rk c : Int)) (hp : ∀ b, b < n → M (9 + b) 1 = pr b) {Q : Mem → Prop}
    (hq : ∀ M' : Mem, (∀ b, b < n → M' 176 b = (buyS d pa la rk n N N).1 b) → M' 174 3 = (buyS d pa la rk n N N).2 → M' 174 2 = costS pr (buyS d pa la rk n N N).1 n → (∀ a c, a ≠ 176 → ¬ (a = 174 ∧ (c = 2 ∨ c = 3)) → M' a c = M a c) → Q M') : wp_X5_buy 174 1 27 M Q := by
  have hn := h.1
  have hN := h.2.1
  unfold wp_X5_buy
  rw [rtv_174_b]
  refine fill_ok LN_176 (fun M5 z1 z2 => ?_)
  rintro M10 rfl M15 rfl
  have e1 : ∀ b, b < 5 → st2 (st2 M5 174 2 0) 174 3 0 176 b = 0 := fun b hb => by rw [st2_off _ _ (by decide), st2_off _ _ (by decide)]; exact z1 b hb
  have e2 : st2 (st2 M5 174 2 0) 174 3 0 174 3 = 0 := st2_s _ _ _ _
  have e3 : st2 (st2 M5 174 2 0) 174 3 0 174 2 = 0 := by rw [st2_n _ _ (by decide), st2_s]
  have e4 : ∀ a c, a ≠ 176 → ¬ (a = 174 ∧ (c = 2 ∨ c = 3)) → st2 (st2 M5 174 2 0) 174 3 0 a c = M a c := fun a c ha hc => by rw [st2_n _ _ (by omega), st2_n _ _ (by omega), z2 _ _ (by omega)]
  generalize st2 (st2 M5 174 2 0) 174 3 0 = M0 at *
  rw [e4 27 0 (by decide) (by decide), h0]
  refine ⟨fun M' x3 => ∃ m : Nat, x3 = (N : Int) - 1 - (m : Int) ∧ m ≤ N ∧ (∀ b, b < 5 → M' 176 b = (buyS d pa la rk n N m).1 b) ∧ M' 174 3 = (buyS d pa la rk n N m).2 ∧ M' 174 2 = costS pr (buyS d pa la rk n N m).1 n ∧ (∀ a c, a ≠ 176 → ¬ (a = 174 ∧ (c = 2 ∨ c = 3)) → M' a c = M a c), fun _ x3 => (x3 + 1).toNat, ⟨0, by omega, Nat.zero_le _, e1, e2, ?_, e4⟩, ?_⟩
  · rw [e3]
    unfold costS buyS
    have : ∀ k, sumN (fun b => (0 : Int) * pr b) k = 0 := fun k => by
      induction k with
      | zero => rfl
      | succ k ih =>
        show sumN (fun b => (0 : Int) * pr b) k + 0 * pr k = 0
        rw [ih, Int.zero_mul]; rfl
    exact (this n).symm
  clear e1 e2 e3 e4 z1 z2 M0 M5
  rintro M1 x3 ⟨m, rfl, hm, f1, f2, f3, f4⟩
  obtain ⟨i1, i2, i3, i4⟩ := buyS_inv h m hm
  have e : buyS d pa la rk n N (m + 1) = stepB d pa la rk n (N - 1 - m) (buyS d pa la rk n N m) := rfl
  unfold stepB at e
  unfold wp_X5_buy_B25 wp_X5_buy_b61
  dsimp only
  rw [w32_id (z := (N : Int) - 1 - (m : Int)) (by omega) (by omega)]
  refine ⟨fun u => ?_, fun u => ?_⟩
  · have : m = N := by omega
    subst this
    exact hq M1 (fun b hb => f1 b (by omega)) f2 f3 f4
  obtain ⟨i, hi⟩ : ∃ i : Nat, i = N - 1 - m := ⟨_, rfl⟩
  have hiN : i < N := by omega
  rw [← hi] at e
  rw [show (N : Int) - 1 - (m : Int) = (i : Int) by omega, rtv_27_2, ixn (show i < 2147483648 by omega), rtv_174_b]
  have hd := h.2.2.1 i hiN
  have nr := needS_range (du := d i) (bo := (buyS d pa la rk n N m).1) (pa := fun b => pa b i) hn hd (fun b hb => ⟨(i1 b hb).1, (i1 b hb).2.1⟩) (fun b hb => h.2.2.2.1 b _ hb)
  refine ⟨inbn LN_29 (by omega), paidByAll_ok (Or.inl rfl) (by omega) LN_176 ?_⟩
  have es : sumN (fun b => M1 176 b * M1 (27 + 14 + b) i) 5 = sumN (fun b => (buyS d pa la rk n N m).1 b * pa b i) n := by
    have sp : ∀ k : Nat, k ≤ 5 → n ≤ k → sumN (fun b => M1 176 b * M1 (27 + 14 + b) i) k = sumN (fun b => (buyS d pa la rk n N m).1 b * pa b i) n := by
      intro k
      induction k with
      | zero =>
        intro _ q
        have : n = 0 := by omega
        rw [this]
        rfl
      | succ k ih =>
        intro q1 q2
        by_cases q : n = k + 1
        · rw [← q]
          exact sumN_congr fun b hb => by rw [f1 b (by omega), f4 _ _ (by omega) (by omega), hpa b i (by omega) hiN]
        · show sumN (fun b => M1 176 b * M1 (27 + 14 + b) i) k + M1 176 k * M1 (27 + 14 + k) i = _
          rw [ih (by omega) (by omega), f1 k (by omega), i2 k (by omega), Int.zero_mul, Int.add_zero]
    exact sp 5 (by omega) hn
  rw [es, f4 29 i (by decide) (by omega), hdu i hiN]
  rintro v45 hv
  have hv : v45 = needS (d i) (buyS d pa la rk n N m).1 (fun b => pa b i) n := hv
  subst hv
  generalize hND : needS (d i) (buyS d pa la rk n N m).1 (fun b => pa b i) n = nd at *
  generalize hBS : buyS d pa la rk n N m = s at *
  rw [w32_id (z := nd) (by omega) (by omega)]
  refine ⟨fun u2 => ⟨⟨m + 1, by omega, by omega, ?_, ?_, ?_, f4⟩, by omega⟩, fun u2 => ?_⟩
  · rw [e, if_neg (by omega)]; exact f1
  · rw [e, if_neg (by omega)]; exact f2
  · rw [e, if_neg (by omega)]; exact f3
  rw [if_pos (by omega)] at e
  -- the search by the ranking
  refine ⟨fun x5 => ∃ c : Nat, x5 = (c : Int) ∧ c ≤ n ∧ ∀ c', c' < c → decide (la (rk c') = (i : Int)) = false, fun x5 => ((n : Int) - x5).toNat, ⟨0, rfl, Nat.zero_le _, fun c hc => by omega⟩, ?_⟩
  rintro x5 ⟨c, rfl, hc, g1⟩
  unfold wp_X5_buyAt_B3 wp_X5_buyAt_b93
  dsimp only
  rw [f4 1 4 (by decide) (by decide), h4, w32n (show n < 2147483648 by omega), w32n (show c < 2147483648 by omega)]
  refine ⟨fun u3 => ?_, fun u3 => ?_⟩
  · have : c = n := by omega
    subst this
    have nf : foundS la rk c i = -1 := firstF_none g1
    rw [if_pos nf] at e
    rw [f2]
    rintro M106 rfl
    refine ⟨⟨m + 1, by omega, by omega, fun b hb => ?_, ?_, ?_, fun a c ha hc2 => ?_⟩, by omega⟩
    · rw [st2_n _ _ (by omega), e]; exact f1 b hb
    · rw [st2_s, e]
    · rw [st2_n _ _ (by omega), e]; exact f3
    · rw [st2_n _ _ (by omega)]; exact f4 a c ha hc2
  have hcn : c < n := by omega
  have hb := h.2.2.2.2.2.2 c hcn
  rw [rtv_174_o, rtv_27_8, rtv_27_10, rtv_1_3, ixn (show c < 2147483648 by omega), f4 175 c (by decide) (by omega), hrk c hcn, ixn (show rk c < 2147483648 by omega), rt_40 _ (by omega), rt_8 _ (by omega), ixn (show i < 2147483648 by omega), f4 (41 + rk c) i (by omega) (by omega), hpa _ _ hb hiN, f4 47 _ (by decide) (by omega), hla _ hb]
  have hpb := h.2.2.2.1 (rk c) i hb
  have hlb := h.2.2.2.2.2.1 (rk c) hb
  refine ⟨inbn LN_175 (by omega), inbn LN_40 (by omega), inbn (SC_ln14 (Or.inl rfl) _ (by omega)) (by omega), ?_⟩
  rintro v31 rfl
  rw [w32_id (z := la (rk c)) (by omega) (by omega), w32n (show i < 2147483648 by omega), w32_id (z := pa (rk c) i) (by omega) (by omega)]
  refine ⟨inbn LN_47 (by omega), fun u4 => ⟨⟨c + 1, by omega, by omega, fun c' hc' => ?_⟩, by omega⟩, fun u4 => ⟨fun u5 => ?_, fun u5 => ⟨by omega, ?_⟩⟩⟩
  · by_cases q : c' = c
    · subst q; exact decide_eq_false u4
    · exact g1 c' (by omega)
  · have := (h.2.2.2.2.1 _ _ hb (show la (rk c) = (i : Int) by omega)).1
    omega
  · have fd : foundS la rk n i = (c : Int) := firstF_at g1 (decide_eq_true (by omega)) n hcn
    rw [fd, if_neg (by omega), show ((c : Int)).toNat = c by omega] at e
    have mr := manyS_range (need := nd) (one := pa (rk c) i) (by omega) (by omega)
    rintro v59 hv59
    have hv59 : v59 = manyS nd (pa (rk c) i) := by
      rw [hv59, w32_id (z := nd + pa (rk c) i - 1) (by omega) (by omega), Int.tdiv_eq_ediv_of_nonneg (by omega)]
      rfl
    rw [hv59, rtv_174_b]
    refine ⟨inbn LN_176 (by omega), ?_⟩
    rintro M69 rfl
    refine ⟨inbn LN_8 (by omega), ?_⟩
    rw [st2_off _ _ (show 9 + rk c ≠ 176 by omega), f4 (9 + rk c) 1 (by omega) (by omega), hp _ hb, st2_off _ _ (show 174 ≠ 176 by omega), f3]
    rintro M89 rfl
    refine ⟨⟨m + 1, by omega, by omega, fun b hb2 => ?_, ?_, ?_, fun a c' ha hc2 => ?_⟩, by omega⟩
    · rw [st2_n _ _ (by omega), e]
      dsimp only
      by_cases q : b = rk c
      · subst q; rw [st2_s, updI_s]
      · rw [st2_n _ _ (by omega), updI_n _ _ q]; exact f1 b hb2
    · rw [st2_n _ _ (by omega), st2_n _ _ (by omega), e]; exact f2
    · rw [st2_s, e]
      unfold costS
      dsimp only
      rw [sumN_upd ((i1 (rk c) hb).2.2 (by omega)), if_pos hb]
    · rw [st2_n _ _ (by omega), st2_n _ _ (by omega)]; exact f4 a c' ha hc2
