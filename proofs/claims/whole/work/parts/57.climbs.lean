/-! the reference climbs -/
def FrL (M M' : Mem) : Prop := ∀ a c, a ≠ 204 → a ≠ 205 → ¬ (a = 189 ∧ c = 21) → M' a c = M a c
theorem FrL_trans {M M2 M3 : Mem} (h : FrL M M2) (h2 : FrL M2 M3) : FrL M M3 := fun a c q1 q2 q3 => (h2 a c q1 q2 q3).trans (h a c q1 q2 q3)
theorem climbs_ok {M : Mem} {d : F1} {pa : Nat → Nat → Int} {la : Nat → Int} {ah : Nat → Nat → Bool} {n N : Nat} (h : LadOK d pa la (rankS ah n) n N) (h5 : M 189 5 = (N : Int)) (h3 : M 189 3 = (n : Int)) {D : Nat → Nat} (hD : ∀ i, i < N → M 194 i = (D i : Int) ∧ D i ≤ 60) (hdu : ∀ i, i < N → M 190 (D i) = d i) {k : Int}
    (hcmp : ∀ M' : Mem, FrL M M' → ∀ b c, b < n → c < n → ∀ P : Bool → Prop, P (ah b c) → wp_X12_isAhead 189 k (b : Int) (c : Int) M' P)
    (hpay : ∀ M' : Mem, FrL M M' → ∀ b i, b < n → i < N → ∀ P : Int → Prop, P (pa b i) → wp_X12_paysAtRung 189 (b : Int) (i : Int) M' P)
    (hlast : ∀ M' : Mem, FrL M M' → ∀ b, b < n → ∀ P : Int → Prop, P (la b) → wp_X12_lastOf 189 (b : Int) M' P) {Q : Mem → Prop}
    (hq : ∀ M' : Mem, (∀ c, c < n → M' 205 c = (rankS ah n c : Int)) → (∀ b, b < n → M' 204 b = (buyS d pa la (rankS ah n) n N N).1 b) → M' 189 21 = (buyS d pa la (rankS ah n) n N N).2 → FrL M M' → Q M') : wp_X12_climbs 189 k M Q := by
  have hn := h.1
  have hN := h.2.1
  unfold wp_X12_climbs
  refine ranks_ok hn h3 (fun M' hF b c hb hc P hP => hcmp M' (fun a c q1 q2 _ => hF a c q2) b c hb hc P hP) (fun M2 k1 k2 => ?_)
  rintro M7 rfl
  generalize hrk : rankS ah n = rk at *
  have l21 : st2 M2 189 21 0 189 21 = 0 := st2_s _ _ _ _
  have l205 : ∀ c, c < n → st2 M2 189 21 0 205 c = (rk c : Int) := fun c hc => by rw [st2_off _ _ (by decide)]; exact k1 c hc
  have lF : FrL M (st2 M2 189 21 0) := fun a c q1 q2 q3 => by rw [st2_n _ _ q3]; exact k2 a c q2
  generalize st2 M2 189 21 0 = M0 at *
  clear k1 k2 M2
  refine ⟨fun M' x2 => ∃ b : Nat, x2 = (b : Int) ∧ b ≤ n ∧ (∀ c, c < b → M' 204 c = 0) ∧ M' 189 21 = 0 ∧ (∀ c, c < n → M' 205 c = (rk c : Int)) ∧ FrL M M', fun _ x2 => ((n : Int) - x2).toNat, ⟨0, rfl, Nat.zero_le _, fun c hc => by omega, l21, l205, lF⟩, ?_⟩
  clear l21 l205 lF M0
  rintro M1 x2 ⟨b, rfl, hb, f1, f2, f3, f4⟩
  unfold wp_X12_climbs_B12
  dsimp only
  rw [f4 189 3 (by decide) (by decide) (by decide), h3, f4 189 5 (by decide) (by decide) (by decide), h5, w32n (show n < 2147483648 by omega), w32n (show b < 2147483648 by omega), rtv_189_20, ixn (show b < 2147483648 by omega)]
  refine ⟨fun u => ?_, fun u => ⟨inbn LN_204 (by omega), ?_⟩⟩
  case refine_2 =>
    rintro M26 rfl
    refine ⟨⟨b + 1, by omega, by omega, fun c hc => ?_, ?_, fun c hc => ?_, fun a c q1 q2 q3 => ?_⟩, by omega⟩
    · by_cases q : c = b
      · subst q; exact st2_s _ _ _ _
      · rw [st2_n _ _ (by omega)]; exact f1 c (by omega)
    · rw [st2_n _ _ (by omega)]; exact f2
    · rw [st2_off _ _ (by decide)]; exact f3 c hc
    · rw [st2_off _ _ q1]; exact f4 a c q1 q2 q3
  have : b = n := by omega
  subst this
  clear u hb
  refine ⟨fun M' x2 => ∃ m : Nat, x2 = (N : Int) - 1 - (m : Int) ∧ m ≤ N ∧ (∀ c, c < b → M' 204 c = (buyS d pa la rk b N m).1 c) ∧ M' 189 21 = (buyS d pa la rk b N m).2 ∧ (∀ c, c < b → M' 205 c = (rk c : Int)) ∧ FrL M M', fun _ x2 => (x2 + 1).toNat, ⟨0, by omega, Nat.zero_le _, f1, f2, f3, f4⟩, ?_⟩
  clear f1 f2 f3 f4 M1
  rintro M1 x2 ⟨m, rfl, hm, f1, f2, f3, f4⟩
  obtain ⟨i1, i2, i3, i4⟩ := buyS_inv h m hm
  have e : buyS d pa la rk b N (m + 1) = stepB d pa la rk b (N - 1 - m) (buyS d pa la rk b N m) := rfl
  unfold stepB at e
  unfold wp_X12_climbs_B40
  dsimp only
  rw [w32_id (z := (N : Int) - 1 - (m : Int)) (by omega) (by omega)]
  refine ⟨fun u => ?_, fun u => ?_⟩
  · have : m = N := by omega
    subst this
    exact hq M1 f3 f1 f2 f4
  obtain ⟨i, hi⟩ : ∃ i : Nat, i = N - 1 - m := ⟨_, rfl⟩
  have hiN : i < N := by omega
  have hx : (i : Int) + -1 = (N : Int) - 1 - ((m + 1 : Nat) : Int) := by omega
  have hm1 : m + 1 ≤ N := by omega
  have hmu : ((i : Int) + -1 + 1).toNat < ((i : Int) + 1).toNat := by omega
  rw [← hi] at e
  obtain ⟨d1, d2⟩ := hD i hiN
  have hd := h.2.2.1 i hiN
  have nr := needS_range (du := d i) (bo := (buyS d pa la rk b N m).1) (pa := fun b => pa b i) hn hd (fun b hb => ⟨(i1 b hb).1, (i1 b hb).2.1⟩) (fun b hb => h.2.2.2.1 b _ hb)
  rw [show (N : Int) - 1 - (m : Int) = (i : Int) by omega, rtv_189_6, rtv_189_0, ixn (show i < 2147483648 by omega), f4 194 i (by omega) (by omega) (by omega), d1, ixn (show D i < 2147483648 by omega), f4 190 _ (by omega) (by omega) (by omega), hdu i hiN]
  refine ⟨inbn LN_194 (by omega), inbn LN_190 (by omega), ?_⟩
  rintro v55 rfl
  -- what the bonds that are bought pay there
  refine ⟨fun x3 x4 => ∃ c : Nat, x4 = (c : Int) ∧ c ≤ b ∧ x3 = d i - sumN (fun b' => (buyS d pa la rk b N m).1 b' * pa b' i) c, fun _ x4 => ((b : Int) - x4).toNat, ⟨0, rfl, Nat.zero_le _, (Int.sub_zero _).symm⟩, ?_⟩
  rintro x3 x4 ⟨c, rfl, hc, rfl⟩
  unfold wp_X12_climbs_B59
  dsimp only
  rw [f4 189 3 (by decide) (by decide) (by decide), h3, w32n (show b < 2147483648 by omega), w32n (show c < 2147483648 by omega), rtv_189_20, ixn (show c < 2147483648 by omega)]
  refine ⟨fun u2 => ?_, fun u2 => ⟨inbn LN_204 (by omega), hpay M1 f4 c i (by omega) hiN _ ?_⟩⟩
  case refine_2 =>
    rw [f1 c (by omega)]
    rintro v85 rfl
    refine ⟨⟨c + 1, by omega, by omega, ?_⟩, by omega⟩
    show _ = d i - (sumN (fun b' => (buyS d pa la rk b N m).1 b' * pa b' i) c + (buyS d pa la rk b N m).1 c * pa c i)
    omega
  have : c = b := by omega
  subst this
  rw [show d i - sumN (fun b' => (buyS d pa la rk c N m).1 b' * pa b' i) c = needS (d i) (buyS d pa la rk c N m).1 (fun b => pa b i) c from rfl]
  clear u2 hc
  generalize hND : needS (d i) (buyS d pa la rk c N m).1 (fun b => pa b i) c = nd at *
  generalize hBS : buyS d pa la rk c N m = s at *
  -- the first by the ranking
  refine ⟨fun x4 x5 => ∃ q : Nat, x5 = (q : Int) - 1 ∧ q ≤ c ∧ ((x4 = -1 ∧ ∀ z, q ≤ z → z < c → decide (la (rk z) = (i : Int)) = false) ∨ ∃ f : Nat, q ≤ f ∧ f < c ∧ x4 = (rk f : Int) ∧ decide (la (rk f) = (i : Int)) = true ∧ ∀ z, q ≤ z → z < f → decide (la (rk z) = (i : Int)) = false), fun _ x5 => (x5 + 1).toNat, ⟨c, rfl, Nat.le_refl _, Or.inl ⟨rfl, fun z hz => by omega⟩⟩, ?_⟩
  rintro x4 x5 ⟨q, rfl, hq2, g1⟩
  unfold wp_X12_climbs_B103 wp_X12_climbs_b132 wp_X12_climbs_b192
  dsimp only
  rw [w32_id (z := (q : Int) - 1) (by omega) (by omega), w32_id (z := nd) (by omega) (by omega), w32n (show i < 2147483648 by omega)]
  refine ⟨fun u2 => ?_, fun u2 => ?_⟩
  · have : q = 0 := by omega
    subst this
    refine ⟨fun u3 => ?_, fun u3 => ⟨⟨m + 1, hx, hm1, ?_, ?_, f3, f4⟩, hmu⟩⟩
    case refine_2 => rw [e, if_neg u3]; exact f1
    case refine_3 => rw [e, if_neg u3]; exact f2
    rw [if_pos u3] at e
    rcases g1 with ⟨rfl, g2⟩ | ⟨f, g2, g3, rfl, g4, g5⟩
    · have nf : foundS la rk c i = -1 := firstF_none (fun z hz => g2 z (Nat.zero_le _) hz)
      rw [if_pos nf] at e
      rw [wm_1]
      refine ⟨fun u4 => absurd rfl u4, fun _ => ?_⟩
      rw [f2]
      rintro M158 rfl
      refine ⟨⟨m + 1, hx, hm1, fun z hz => ?_, ?_, fun z hz => ?_, fun a z q1 q2 q3 => ?_⟩, hmu⟩
      · rw [st2_off _ _ (by decide), e]; exact f1 z hz
      · rw [st2_s, e]
      · rw [st2_off _ _ (by decide)]; exact f3 z hz
      · rw [st2_n _ _ q3]; exact f4 a z q1 q2 q3
    · have fd : foundS la rk c i = (f : Int) := firstF_at (fun z hz => g5 z (Nat.zero_le _) hz) g4 c g3
      have hb := h.2.2.2.2.2.2 f g3
      have g4' := of_decide_eq_true g4
      have hp1 := h.2.2.2.2.1 _ _ hb g4'
      have hp2 := h.2.2.2.1 _ i hb
      rw [fd, if_neg (by omega), show ((f : Int)).toNat = f by omega] at e
      rw [wm_1, w32n (show rk f < 2147483648 by omega)]
      refine ⟨fun _ => hpay M1 f4 (rk f) i hb hiN _ ?_, fun u4 => absurd (show ¬ (rk f : Int) = -1 by omega) u4⟩
      rw [rtv_189_20, ixn (show rk f < 2147483648 by omega), f1 _ hb, (i1 _ hb).2.2 (by omega), w32_id (z := pa (rk f) i) (by omega) (by omega), w32_id (z := nd + pa (rk f) i - 1) (by omega) (by omega), Int.tdiv_eq_ediv_of_nonneg (by omega), Int.zero_add]
      refine ⟨inbn LN_204 (by omega), by omega, inbn LN_204 (by omega), ?_⟩
      rintro M191 rfl
      refine ⟨⟨m + 1, hx, hm1, fun z hz => ?_, ?_, fun z hz => ?_, fun a z q1 q2 q3 => ?_⟩, hmu⟩
      · rw [e]
        dsimp only
        by_cases q : z = rk f
        · subst q; rw [st2_s, updI_s]; rfl
        · rw [st2_n _ _ (by omega), updI_n _ _ q]; exact f1 z hz
      · rw [st2_off _ _ (by decide), e]; exact f2
      · rw [st2_off _ _ (by decide)]; exact f3 z hz
      · rw [st2_off _ _ q1]; exact f4 a z q1 q2 q3
  · obtain ⟨p, rfl⟩ : ∃ p, q = p + 1 := ⟨q - 1, by omega⟩
    rw [show ((p + 1 : Nat) : Int) - 1 = (p : Int) by omega, rtv_189_22, ixn (show p < 2147483648 by omega), f3 p (by omega)]
    have hb := h.2.2.2.2.2.2 p (by omega)
    have hl := h.2.2.2.2.2.1 _ hb
    refine ⟨inbn LN_205 (by omega), hlast M1 f4 (rk p) hb _ ?_⟩
    rw [w32_id (z := la (rk p)) (by omega) (by omega)]
    refine ⟨fun u3 => ⟨⟨p, by omega, by omega, ?_⟩, by omega⟩, fun u3 => ⟨inbn LN_205 (by omega), ⟨p, by omega, by omega, Or.inr ⟨p, Nat.le_refl _, by omega, rfl, decide_eq_true (by omega), fun z hz hz2 => by omega⟩⟩, by omega⟩⟩
    have no : decide (la (rk p) = (i : Int)) = false := decide_eq_false u3
    rcases g1 with ⟨g2, g3⟩ | ⟨f, g2, g3, g4, g5, g6⟩
    · refine Or.inl ⟨g2, fun z hz hz2 => ?_⟩
      by_cases q : z = p
      · rw [q]; exact no
      · exact g3 z (by omega) hz2
    · refine Or.inr ⟨f, by omega, g3, g4, g5, fun z hz hz2 => ?_⟩
      by_cases q : z = p
      · rw [q]; exact no
      · exact g6 z (by omega) hz2
