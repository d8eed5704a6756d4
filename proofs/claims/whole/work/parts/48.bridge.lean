/-! what both play from: the days of the book -/
def rrS (d r y : F1) : F1 := fun i => rateByS d r y (dayS d i)
def pdH (hv d t R : F1) (n : Nat) : F1 := fun i => sumN (fun b => hv b * payAt d t b R i) n
def duS (d : F1) : F1 := fun i => d (dayS d i)
def lmS (d l : F1) : F1 := fun i => l (dayS d i) - 1
def heldF (t : F1) : F1 := fun b => t (30 + b)
def Rng (d r l t : F1) (n : Int) : Prop := (∀ k, k ≤ 60 → 0 ≤ d k ∧ d k ≤ 99 ∧ 0 ≤ r k ∧ r k ≤ 4 ∧ 0 ≤ l k ∧ l k ≤ 100) ∧ rungs d ≤ 5 ∧ 0 ≤ n ∧ n ≤ 5 ∧
  ∀ b : Nat, (b : Int) < n → (0 ≤ t b ∧ t b ≤ 5) ∧ (1 ≤ t (5 + b) ∧ t (5 + b) ≤ 99) ∧ (0 ≤ t (10 + b) ∧ t (10 + b) ≤ 9) ∧ (1 ≤ t (15 + b) ∧ t (15 + b) ≤ 30) ∧ (1 ≤ t (20 + b) ∧ t (20 + b) ≤ 60) ∧ (1 ≤ t (25 + b) ∧ t (25 + b) ≤ 60) ∧ (0 ≤ t (30 + b) ∧ t (30 + b) ≤ 99)
theorem RefOK_Rng {M : Mem} {y : F1} (h : RefOK M y) : Rng (M 190) (M 191) (M 192) (M 193) (M 189 3) := ⟨h.1, h.2.1, h.2.2.2.2.2.1, h.2.2.2.2.2.2.1, h.2.2.2.2.2.2.2⟩
theorem Inv_Rng {DK : Mem → Prop} {M : Mem} (h : Inv DK M) : Rng (M 190) (M 191) (M 192) (M 193) (M 189 3) := RefOK_Rng (Inv_RefOK h)
def yR (y : F1) : Prop := ∀ i, i < 5 → -1 ≤ y i ∧ y i ≤ 9
theorem Rng_by {d r l t y : F1} {n : Int} (h : Rng d r l t n) (hy : yR y) {k : Nat} (hk : k ≤ 60) : 0 ≤ rateByS d r y k ∧ rateByS d r y k ≤ 9 :=
  rateByS_range h.2.1 (fun k hk => ⟨(h.1 k hk).2.2.1, (h.1 k hk).2.2.2.1⟩) hy hk
theorem Rng_pay {d r l t y : F1} {n : Int} (h : Rng d r l t n) (hy : yR y) {b k : Nat} (hb : (b : Int) < n) (h1 : 1 ≤ k) (hk : k ≤ 60) : 0 ≤ payT t b (rateByS d r y) k ∧ payT t b (rateByS d r y) k ≤ 300 := by
  obtain ⟨w2, w3, w4, w5, w6, w7, w8⟩ := h.2.2.2.2 b hb
  exact payS_range w2 w4 (by omega) (by omega) w7 h1 (Rng_by h hy hk)
theorem Rng_payAt {d r l t y : F1} {n : Int} (h : Rng d r l t n) (hy : yR y) {b : Nat} (hb : (b : Int) < n) (i : Nat) : 0 ≤ payAt d t b (rateByS d r y) i ∧ payAt d t b (rateByS d r y) i ≤ 18000 :=
  atR_range (C := cnt d) (fun _ h1 hk => Rng_pay h hy hb h1 hk) i
theorem pdH_range {d r l t y hv : F1} {n : Int} (h : Rng d r l t n) (hy : yR y) (hh : ∀ b : Nat, (b : Int) < n → 0 ≤ hv b ∧ hv b ≤ 99) (i : Nat) : 0 ≤ pdH hv d t (rateByS d r y) n.toNat i ∧ pdH hv d t (rateByS d r y) n.toNat i ≤ 8910000 := by
  have hn := h.2.2.1
  have hn2 := h.2.2.2.1
  have key := sumN_range (f := fun b => hv b * payAt d t b (rateByS d r y) i) (B := 1782000) (n := n.toNat) (fun b hb => by
    have hb' : (b : Int) < n := by omega
    have a := hh b hb'
    have c := Rng_payAt h hy hb' i
    refine ⟨Int.mul_nonneg a.1 c.1, ?_⟩
    have := Int.mul_le_mul a.2 c.2 c.1 (by decide)
    omega)
  unfold pdH
  omega
theorem Rng_PlayOK {d r l t y hv : F1} {n : Int} (h : Rng d r l t n) (hy : yR y) (hh : ∀ b : Nat, (b : Int) < n → 0 ≤ hv b ∧ hv b ≤ 99) : PlayOK (rrS d r y) (pdH hv d t (rateByS d r y) n.toNat) (duS d) (lmS d l) (rungs d) := by
  refine ⟨h.2.1, fun i hi => ?_⟩
  obtain ⟨a1, a2, -⟩ := dayS_ok hi
  obtain ⟨b1, b2, b3, b4, b5, b6⟩ := h.1 (dayS d i) a2
  have pp := pdH_range h hy hh i
  refine ⟨Rng_by h hy a2, ⟨pp.1, Int.le_trans pp.2 (by decide)⟩, ⟨b1, b2⟩, ?_⟩
  unfold lmS
  omega
theorem plays_ok {M : Mem} {y : F1} (hR : RefOK M y) {Q : Int → Mem → Prop}
    (h : ∀ M' : Mem, (∀ i, i < rungs (M 190) → M' 206 i = hasS (rrS (M 190) (M 191) y) (pdH (heldF (M 193)) (M 190) (M 193) (rateByS (M 190) (M 191) y) (M 189 3).toNat) (duS (M 190)) (lmS (M 190) (M 192)) (rungs (M 190)) (i + 1) ∧ M' 207 i = shortA (rrS (M 190) (M 191) y) (pdH (heldF (M 193)) (M 190) (M 193) (rateByS (M 190) (M 191) y) (M 189 3).toNat) (duS (M 190)) (lmS (M 190) (M 192)) (rungs (M 190)) i) →
      M' 189 25 = sumN (spiltA (rrS (M 190) (M 191) y) (pdH (heldF (M 193)) (M 190) (M 193) (rateByS (M 190) (M 191) y) (M 189 3).toNat) (duS (M 190)) (lmS (M 190) (M 192)) (rungs (M 190))) (rungs (M 190)) →
      M' 189 26 = sumN (grewA (rrS (M 190) (M 191) y) (pdH (heldF (M 193)) (M 190) (M 193) (rateByS (M 190) (M 191) y) (M 189 3).toNat) (duS (M 190)) (lmS (M 190) (M 192)) (rungs (M 190))) (rungs (M 190)) →
      M' 189 27 = sumN (pdH (heldF (M 193)) (M 190) (M 193) (rateByS (M 190) (M 191) y) (M 189 3).toNat) (rungs (M 190)) → FrP M M' →
      Q (sumN (shortA (rrS (M 190) (M 191) y) (pdH (heldF (M 193)) (M 190) (M 193) (rateByS (M 190) (M 191) y) (M 189 3).toNat) (duS (M 190)) (lmS (M 190) (M 192)) (rungs (M 190))) (rungs (M 190))) M') : wp_X12_plays 189 M Q := by
  have hg := RefOK_Rng hR
  have hy : yR y := fun i hi => (hR.2.2.2.2.1 i hi).2
  have hT := hR.2.2.2.2.2.2.2
  have hn := hR.2.2.2.2.2.1
  have hn2 := hR.2.2.2.2.2.1
  have hP := Rng_PlayOK (hv := heldF (M 193)) hg hy (fun b hb => (hT b hb).2.2.2.2.2.2)
  have same : ∀ M', FrP M M' → RefOK M' y ∧ M' 190 = M 190 ∧ M' 191 = M 191 ∧ M' 193 = M 193 ∧ M' 189 3 = M 189 3 := fun M' hF => by
    have row : ∀ k, k ≠ 206 → k ≠ 207 → k ≠ 189 → M' k = M k := fun k a b c => funext fun j => hF k j a b (by omega)
    have e3 := hF 189 3 (by decide) (by decide) (by decide)
    have e5 := hF 189 5 (by decide) (by decide) (by decide)
    exact ⟨RefOK_same hR (row 190 (by decide) (by decide) (by decide)) (row 191 (by decide) (by decide) (by decide)) (row 192 (by decide) (by decide) (by decide)) (row 193 (by decide) (by decide) (by decide)) (row 194 (by decide) (by decide) (by decide)) (row 195 (by decide) (by decide) (by decide)) e3 e5, row 190 (by decide) (by decide) (by decide), row 191 (by decide) (by decide) (by decide), row 193 (by decide) (by decide) (by decide), e3⟩
  refine plays_gen (N := rungs (M 190)) (n := (M 189 3).toNat) (C := cnt (M 190)) (D := dayS (M 190)) (p := fun b => payT (M 193) b (rateByS (M 190) (M 191) y)) (R := rateByS (M 190) (M 191) y) (h := heldF (M 193)) hR.2.2.1 hR.2.1 (Int.toNat_of_nonneg hn).symm (Int.toNat_le.mpr hR.2.2.2.2.2.2.1) (fun i hi => ⟨hR.2.2.2.1 i hi, (dayS_ok hi).1, (dayS_ok hi).2.1⟩) (fun i k hi h1 => rung_le hi h1) (fun i j h1 h2 => dayS_mono h1 h2) (fun b hb => ⟨rfl, (hT b (Int.lt_toNat.mp hb)).2.2.2.2.2.2⟩) (fun b k hb h1 hk => Rng_pay hg hy (Int.lt_toNat.mp hb) h1 hk) (fun k hk => ⟨(hR.1 k hk).1, (hR.1 k hk).2.1, (hR.1 k hk).2.2.2.2.1, (hR.1 k hk).2.2.2.2.2⟩) (fun M' hF b k hb h1 hk P hP => ?_) (fun M' hF k h1 hk P hP => ?_) (fun k hk => Rng_by hg hy hk) hP (fun i hi => ⟨rfl, rfl, rfl, rfl⟩) h
  · obtain ⟨s1, s2, s3, s4, s5⟩ := same M' hF
    refine paysOn_ok s1 (by rw [s5]; exact Int.lt_toNat.mp hb) h1 hk ?_
    rw [s2, s3, s4]
    exact hP
  · obtain ⟨s1, s2, s3, s4, s5⟩ := same M' hF
    refine rateBy_ok s1 h1 hk ?_
    rw [s2, s3]
    exact hP
/-- how many of each are held comes to the class's row -/
theorem readHeld_ok {M : Mem} {Q : Mem → Prop} {n : Nat} (hn : M 1 4 = (n : Int)) (hn5 : n ≤ 5) (h : ∀ M' : Mem, (∀ b, b < n → M' 71 b = M (9 + b) 6) → (∀ b, n ≤ b → b < 5 → M' 71 b = 0) → (∀ k j, k ≠ 71 → M' k j = M k j) → Q M') : wp_X11_readHeld 0 M Q := by
  refine ⟨fun M' x1 => ∃ b : Nat, x1 = (b : Int) ∧ b ≤ 5 ∧ (∀ c, c < b → c < n → M' 71 c = M (9 + c) 6) ∧ (∀ c, c < b → n ≤ c → M' 71 c = 0) ∧ (∀ k j, k ≠ 71 → M' k j = M k j), fun _ x1 => (5 - x1).toNat, ⟨0, rfl, by omega, fun c hc => by omega, fun c hc => by omega, fun _ _ _ => rfl⟩, ?_⟩
  rintro M1 x1 ⟨b, rfl, hb, f1, f2, f3⟩
  unfold wp_X11_readHeld_B2 wp_X11_readHeld_b39
  dsimp only
  rw [wl_5, w32n (show b < 2147483648 by omega), rtv_0_8, rtv_0_0, rtv_1_3, ixn (show b < 2147483648 by omega)]
  refine ⟨fun u => ?_, fun u => ?_⟩
  · have : b = 5 := by omega
    subst this
    exact h M1 (fun c hc => f1 c (by omega) hc) (fun c h1 h2 => f2 c h2 h1) f3
  have hb5 : b < 5 := by omega
  have nxt : ∀ (z : Int) (M2 : Mem), (b < n → z = M (9 + b) 6) → (n ≤ b → z = 0) → M2 = st2 M1 71 b z → (∃ b' : Nat, ((b : Int) + 1) = (b' : Int) ∧ b' ≤ 5 ∧ (∀ c, c < b' → c < n → M2 71 c = M (9 + c) 6) ∧ (∀ c, c < b' → n ≤ c → M2 71 c = 0) ∧ (∀ k j, k ≠ 71 → M2 k j = M k j)) ∧ (5 - ((b : Int) + 1)).toNat < (5 - (b : Int)).toNat := by
    rintro z M2 h1 h2 rfl
    refine ⟨⟨b + 1, by omega, by omega, fun c hc hc2 => ?_, fun c hc hc2 => ?_, fun k j hk => ?_⟩, by omega⟩
    · by_cases q : c = b
      · subst q; rw [st2_s]; exact h1 hc2
      · rw [st2_n _ _ (by omega)]; exact f1 c (by omega) hc2
    · by_cases q : c = b
      · subst q; rw [st2_s]; exact h2 hc2
      · rw [st2_n _ _ (by omega)]; exact f2 c (by omega) hc2
    · rw [st2_off _ _ hk]; exact f3 k j hk
  rw [hasBond_iff (n := (n : Int)) ((f3 1 4 (by decide)).trans hn) (by omega) ⟨by omega, by omega⟩]
  refine dcf (fun z => ⟨inbn LN_8 hb5, inbn LN_71 hb5, fun M39 e => nxt _ M39 (fun _ => ?_) (fun q => by omega) e⟩) (fun z => ⟨inbn LN_71 hb5, fun M39 e => nxt _ M39 (fun q => absurd (show 0 ≤ (b : Int) ∧ (b : Int) < (n : Int) by omega) z) (fun _ => rfl) e⟩)
  rw [rt_8 b hb5]
  exact f3 _ _ (by omega)
/-- the class's play over a scene, by what is in the row of the held -/
theorem play_scene {s : Nat} (hs : SC s) {M : Mem} {Q : Mem → Prop} {d r l t y hv : F1} {n : Int} (hS : SceneOK M s d r l t y n) (hg : Rng d r l t n) (hy : yR y) (hh : ∀ b : Nat, (b : Int) < n → M 71 b = hv b ∧ 0 ≤ hv b ∧ hv b ≤ 99) (h0 : ∀ b : Nat, ¬ (b : Int) < n → b < 5 → M 71 b = 0)
    (h : ∀ M' : Mem, M' 177 6 = (rungs d : Int) → M' 177 1 = sumN (shortA (rrS d r y) (pdH hv d t (rateByS d r y) n.toNat) (duS d) (lmS d l) (rungs d)) (rungs d) → M' 177 3 = sumN (spiltA (rrS d r y) (pdH hv d t (rateByS d r y) n.toNat) (duS d) (lmS d l) (rungs d)) (rungs d) → M' 177 4 = sumN (grewA (rrS d r y) (pdH hv d t (rateByS d r y) n.toNat) (duS d) (lmS d l) (rungs d)) (rungs d) → M' 177 5 = sumN (pdH hv d t (rateByS d r y) n.toNat) (rungs d) → (∀ i, i < rungs d → M' 178 i = hasS (rrS d r y) (pdH hv d t (rateByS d r y) n.toNat) (duS d) (lmS d l) (rungs d) (i + 1) ∧ M' 179 i = shortA (rrS d r y) (pdH hv d t (rateByS d r y) n.toNat) (duS d) (lmS d l) (rungs d) i) → (∀ k j, k ≠ 177 → k ≠ 178 → k ≠ 179 → M' k j = M k j) → Q M') : wp_X6_play 177 s 71 M Q := by
  have hn := hg.2.2.1
  have hn2 := hg.2.2.2.1
  refine play_ok hs (Rng_PlayOK hg hy (fun b hb => (hh b hb).2)) hS.1 (fun i hi => ?_) h
  obtain ⟨a1, a2, a3, a4⟩ := hS.2.1 i hi
  refine ⟨a3, a2, a4, ?_⟩
  unfold pdH
  have sp : ∀ m : Nat, m ≤ 5 → n.toNat ≤ m → sumN (fun b => M 71 b * M (s + 14 + b) i) m = sumN (fun b => hv b * payAt d t b (rateByS d r y) i) n.toNat := by
    intro m
    induction m with
    | zero =>
      intro _ q
      rw [show n.toNat = 0 by omega]
      rfl
    | succ m ih =>
      intro q1 q2
      by_cases q : n.toNat = m + 1
      · rw [q]
        exact sumN_congr fun b hb => by rw [(hh b (by omega)).1, (hS.2.2.2 b (by omega)).2.1 i hi]
      · show sumN (fun b => M 71 b * M (s + 14 + b) i) m + M 71 m * M (s + 14 + m) i = _
        rw [ih (by omega) (by omega), h0 m (by omega) (by omega), Int.zero_mul, Int.add_zero]
  exact sp 5 (by omega) (by omega)
