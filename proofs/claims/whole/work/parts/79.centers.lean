/-! where a share enters -/
theorem enUp_great {D : QD} {l : Nat} : ∀ m k, enUp D l k = none → k ≤ m → enUp D l m = none
  | 0, k, h, hk => by
    have : k = 0 := by omega
    subst this
    exact h
  | m + 1, k, h, hk => by
    rcases Nat.lt_or_ge m k with q | q
    · have : k = m + 1 := by omega
      subst this
      exact h
    · have := enUp_great m k h q
      unfold enUp
      rw [this]
theorem enUp_skip {D : QD} {l k : Nat} {r : Option Nat} (h : enUp D l k = some r) (ha : above0 (D.S l k) = false) : enUp D l (k + 1) = some r := by
  unfold enUp
  rw [h, ha]
  rfl
theorem enUp_over {D : QD} {l k : Nat} {r : Option Nat} (h : enUp D l k = some r) (ha : above0 (D.S l k) = true) (hr : rtS D l k = none) : enUp D l (k + 1) = none := by
  unfold enUp
  rw [h, ha, hr]
  rfl
theorem enUp_first {D : QD} {l k : Nat} {q : Int × Int} (h : enUp D l k = some none) (ha : above0 (D.S l k) = true) (hr : rtS D l k = some q) : enUp D l (k + 1) = some (some k) := by
  unfold enUp
  rw [h, ha, hr]
  rfl
theorem enUp_next {D : QD} {l k e : Nat} {q : Int × Int} (h : enUp D l k = some (some e)) (ha : above0 (D.S l k) = true) (hr : rtS D l k = some q) : enUp D l (k + 1) = if betterS D l k e then some (some k) else some (some e) := by
  have : enUp D l (k + 1) = (match enUp D l k with
    | none => none
    | some r => if above0 (D.S l k) then (match rtS D l k with | none => none | some _ => (match r with | none => some (some k) | some e => if betterS D l k e then some (some k) else some (some e))) else some r) := rfl
  rw [this, h, ha, hr]
  rfl
def FrLx (M M' : Mem) : Prop := ∀ k j, k ≠ 100 → k ≠ 101 → M' k j = M k j
theorem DicC_same {n H : Nat} {key : Nat → Nat} {M M' : Mem} {D : QD} (hH : H ≤ 9) (h : DicC n H key M D) (e : ∀ k j, 87 ≤ k → k < 174 → ¬ (98 ≤ k ∧ k ≤ 101) → M' k j = M k j) : DicC n H key M' D := by
  obtain ⟨m1, m2, m3, m4, m5⟩ := h
  refine ⟨?_, ?_, fun r hr => ⟨?_, RQ_same (m3 r hr).2 (fun k j q1 q2 => e k j (by omega) (by omega) (by omega))⟩, RQ_same m4 (fun k j q1 q2 => e k j (by omega) (by omega) (by omega)), fun j hj => ?_⟩
  · rw [e 87 4 (by decide) (by decide) (by decide)]; exact m1
  · rw [e 87 2 (by decide) (by decide) (by decide)]; exact m2
  · rw [e _ 0 (by omega) (by omega) (by omega)]; exact (m3 r hr).1
  · rw [e 97 j (by decide) (by decide) (by decide)]; exact m5 j hj
theorem findEntering_ok {n H : Nat} {on : Nat → Bool} {key : Nat → Nat} (K : KeyOK n H on key) {D : QD} (w : WFQ n on D) (N : NumQ n on D) (ok : okQ n on D) {p : Nat} (hp : p < H) {M : Mem} (hM : DicC n H key M D) {Q : Int → Mem → Prop} (h : ∀ (r : Int) (M' : Mem), FrLx M M' → ((enUp D (key p) n = none ∧ r = -7) ∨ (enUp D (key p) n = some none ∧ r = -8) ∨ ∃ e : Nat, enUp D (key p) n = some (some e) ∧ r = (e : Int) ∧ e < n ∧ above0 (D.S (key p) e) = true) → Q r M') : wp_X3_findEntering 87 (102 + 8 * p) M Q := by
  obtain ⟨k1, k2, k3, k4, k5, k6⟩ := id K
  obtain ⟨m1, m2, m3, m4, m5⟩ := id hM
  obtain ⟨l9, lo⟩ := k3 p hp
  obtain ⟨l, hl⟩ : ∃ l, l = key p := ⟨_, rfl⟩
  rw [← hl] at l9 lo h
  obtain ⟨q1, q2, q3, q4⟩ := IsRw_p (show p < 9 by omega)
  have rw1 : RQ M (102 + 8 * p) (D.B l) (D.S l) := by rw [hl]; exact (m3 p hp).2
  unfold wp_X3_findEntering
  refine ⟨fun M' x2 x3 => ∃ (k : Nat) (r : Option Nat), x3 = (k : Int) ∧ k ≤ n ∧ enUp D l k = some r ∧ FrLx M M' ∧ ((r = none ∧ x2 = -8) ∨ ∃ (e : Nat) (q : Int × Int), r = some e ∧ e < k ∧ x2 = (e : Int) ∧ above0 (D.S l e) = true ∧ rtS D l e = some q ∧ Fr q ∧ FR M' 101 (some q)), fun _ _ x3 => ((n : Int) - x3).toNat, ⟨0, none, rfl, Nat.zero_le _, rfl, fun _ _ _ _ => rfl, Or.inl ⟨rfl, rfl⟩⟩, ?_⟩
  rintro M1 x2 x3 ⟨k, r, rfl, hk, f1, f2, f3⟩
  unfold wp_X3_findEntering_B5
  dsimp only
  rw [f2 87 4 (by decide) (by decide), m1, w32n (show k < 2147483648 by omega), w32n (show n < 2147483648 by omega), ixn (show k < 2147483648 by omega), q2, rt_87.1, rt_87.2.2.2.2.2.1, rt_87.2.2.2.2.2.2, rw_88.2.1]
  refine ⟨fun u => ?_, fun u => ⟨inbn q3 (by clear f3; omega), ?_⟩⟩
  · have : k = n := by clear f3; omega
    subst this
    rcases f3 with ⟨rfl, rfl⟩ | ⟨e, q, rfl, e1, rfl, e2, e3, -⟩
    · exact h _ M1 f2 (Or.inr (Or.inl ⟨f1, rfl⟩))
    · exact h _ M1 f2 (Or.inr (Or.inr ⟨e, f1, rfl, e1, e2⟩))
  have kn : k < n := by clear f3; omega
  have k5' : k < 5 := by clear f3; omega
  have μk : ((n : Int) - ((k : Int) + 1)).toNat < ((n : Int) - (k : Int)).toNat := by clear f3; omega
  have l10 : l < 10 := by clear f3; omega
  rw [q4 k k5', rw_88.2.2.2 k k5', vl_0]
  have RS : FR M1 (102 + 8 * p + 3 + k) (D.S l k) := FR_same (rw1.2 k k5') (fun j => f2 _ j (by clear f3; omega) (by clear f3; omega))
  have RC : FR M1 (91 + k) (D.S 9 k) := FR_same (m4.2 k k5') (fun j => f2 _ j (by clear f3; omega) (by clear f3; omega))
  obtain ⟨x, x1, -, -, x2', -⟩ := FR_val RS ((ok l l10 lo).2 k kn) ((w l l10 lo).2 k kn)
  rw [x2']
  refine ⟨fun v => ?_, fun v => ⟨inbn LN_90 k5', ?_⟩⟩
  · have na : above0 (D.S l k) = false := by rw [x1]; exact decide_eq_false (by clear f3; omega)
    unfold wp_X3_findEntering_b128
    refine ⟨⟨k + 1, r, rfl, kn, enUp_skip f1 na, f2, ?_⟩, μk⟩
    rcases f3 with f3 | ⟨e, q, e0, e1, e2⟩
    · exact Or.inl f3
    · exact Or.inr ⟨e, q, e0, by omega, e2⟩
  · have na : above0 (D.S l k) = true := by rw [x1]; exact decide_eq_true (by clear f3; omega)
    have nz := above_ne na
    refine becomeF_ok (by clear f3; omega) RC (fun M2 a1 a2 => ⟨inbn q3 k5', ?_⟩)
    refine divide_ok (by clear f3; omega) ((w 9 (by decide) k6).2 k kn) ((w l l10 lo).2 k kn) nz a1 (FR_same RS (fun j => a2 _ j (by clear f3; omega))) (fun M3 b1 b2 => ?_)
    have b1 : FR M3 100 (rtS D l k) := b1
    have rF : FrO (rtS D l k) := ob_div_Fr ((w 9 (by decide) k6).2 k kn) nz
    have fr3 : ∀ k j, k ≠ 100 → M3 k j = M1 k j := fun k j z => by rw [b2 k j z, a2 k j z]
    have fl3 : FrLx M M3 := fun k j z1 z2 => by rw [fr3 k j z1]; exact f2 k j z1 z2
    rw [FR_flag b1]
    refine ⟨fun v1 => ?_, fun v1 => ?_⟩
    case refine_2 =>
      have rn : rtS D l k = none := Option.isNone_iff_eq_none.mp v1
      exact h _ M3 fl3 (Or.inl ⟨enUp_great n (k + 1) (enUp_over f1 na rn) kn, rfl⟩)
    obtain ⟨q, hq⟩ : ∃ q, rtS D l k = some q := by
      cases z : rtS D l k with
      | none => rw [z] at v1; cases v1
      | some q => exact ⟨q, rfl⟩
    have qF := rF q hq
    rw [hq] at b1
    -- it becomes the best
    have take : enUp D l (k + 1) = some (some k) → wp_X3_findEntering_b115 87 (102 + 8 * p) Q (fun M' x2' x3' => (∃ (k : Nat) (r : Option Nat), x3' = (k : Int) ∧ k ≤ n ∧ enUp D l k = some r ∧ FrLx M M' ∧ ((r = none ∧ x2' = -8) ∨ ∃ (e : Nat) (q : Int × Int), r = some e ∧ e < k ∧ x2' = (e : Int) ∧ above0 (D.S l e) = true ∧ rtS D l e = some q ∧ Fr q ∧ FR M' 101 (some q))) ∧ ((n : Int) - x3').toNat < ((n : Int) - (k : Int)).toNat) M3 (k : Int) := by
      intro eu
      unfold wp_X3_findEntering_b115 wp_X3_findEntering_b128
      rw [rt_87.2.2.2.2.2.1, rt_87.2.2.2.2.2.2]
      refine becomeF_ok (by decide) b1 (fun M4 c1 c2 => ⟨⟨k + 1, some k, rfl, kn, eu, fun a j z1 z2 => ?_, Or.inr ⟨k, q, rfl, by omega, rfl, na, hq, qF, c1⟩⟩, μk⟩)
      rw [c2 a j z2]
      exact fl3 a j z1 z2
    rcases f3 with ⟨rfl, rfl⟩ | ⟨e, q', rfl, e1, rfl, e2, e3, e4, e5⟩
    · refine ⟨fun z => absurd z (by decide), fun _ => ?_⟩
      unfold wp_X3_findEntering_b88
      exact ⟨fun _ => take (enUp_first f1 na hq), fun z => absurd (show w32 (-1) < 0 by decide) z⟩
    · refine ⟨fun _ => ?_, fun z => absurd (show 0 ≤ w32 (e : Int) by rw [w32n (by omega)]; omega) z⟩
      have e5' : FR M3 101 (some q') := FR_same e5 (fun j => fr3 _ j (by decide))
      refine fcompare_ok b1 e5' qF e4 (fun z hz => ?_)
      have nx := enUp_next f1 na hq
      have keep : enUp D l (k + 1) = some (some e) → wp_X3_findEntering_b128 87 (102 + 8 * p) Q (fun M' x2' x3' => (∃ (k : Nat) (r : Option Nat), x3' = (k : Int) ∧ k ≤ n ∧ enUp D l k = some r ∧ FrLx M M' ∧ ((r = none ∧ x2' = -8) ∨ ∃ (e : Nat) (q : Int × Int), r = some e ∧ e < k ∧ x2' = (e : Int) ∧ above0 (D.S l e) = true ∧ rtS D l e = some q ∧ Fr q ∧ FR M' 101 (some q))) ∧ ((n : Int) - x3').toNat < ((n : Int) - (k : Int)).toNat) M3 (e : Int) (k : Int) := fun eu => by
        unfold wp_X3_findEntering_b128
        exact ⟨⟨k + 1, some e, rfl, kn, eu, fl3, Or.inr ⟨e, q', rfl, by omega, rfl, e2, e3, e4, e5'⟩⟩, μk⟩
      have bt : betterS D l k e = (ltq q q' || (!ltq q' q && decide (D.so k ≤ D.so e))) := by
        unfold betterS
        rw [hq, e3]
      have l1 : ltq q q' = decide (q.1 * q'.2 < q'.1 * q.2) := rfl
      have l2 : ltq q' q = decide (q'.1 * q.2 < q.1 * q'.2) := rfl
      unfold wp_X3_findEntering_b88
      rcases hz with ⟨rfl, hz⟩ | ⟨rfl, hz⟩ | ⟨rfl, hz⟩
      · have : betterS D l k e = true := by rw [bt, l1, decide_eq_true (by omega)]; rfl
        rw [this, if_pos rfl] at nx
        exact ⟨fun _ => take nx, fun z => absurd (show w32 (-1) < 0 by decide) z⟩
      · have b2' : betterS D l k e = decide (D.so k ≤ D.so e) := by rw [bt, l1, l2, decide_eq_false (by omega), decide_eq_false (by omega)]; rfl
        refine ⟨fun z => absurd z (by decide), fun _ => ⟨fun z => absurd (show w32 0 = 0 by decide) z, fun _ => ?_⟩⟩
        have kk : D.so k ≠ D.so e := fun z => by
          have := N.2.2.2 k e kn (by omega) z
          omega
        have n1 := N.2.2.1 k kn
        have n2 := N.2.2.1 e (by omega)
        rw [rt_87.2.2.1, ixn (show k < 2147483648 by omega), ixn (show e < 2147483648 by omega), fl3 97 k (by decide) (by decide), fl3 97 e (by decide) (by decide), m5 k kn, m5 e (by omega), w32n (show D.so k < 2147483648 by omega), w32n (show D.so e < 2147483648 by omega)]
        refine ⟨inbn LN_97 k5', inbn LN_97 (by omega), fun z => keep ?_, fun z => take ?_⟩
        · rw [nx, b2', decide_eq_false (by omega)]
          rfl
        · rw [nx, b2', decide_eq_true (by omega)]
          rfl
      · have : betterS D l k e = false := by rw [bt, l1, l2, decide_eq_false (by omega), decide_eq_true (by omega)]; rfl
        rw [this] at nx
        refine ⟨fun z => absurd z (by decide), fun _ => ⟨fun _ => keep nx, fun z => absurd (show ¬ w32 1 = 0 by decide) z⟩⟩
/-! to the end -/
def endS (m : Nat) (c : Int) : Int := if c = 0 then (m : Int) else c
theorem endS_7 (m : Nat) : ¬ 0 ≤ endS m (-7) := by
  unfold endS
  rw [if_neg (by decide)]
  decide
theorem endS_8 (m : Nat) : ¬ 0 ≤ endS m (-8) := by
  unfold endS
  rw [if_neg (by decide)]
  decide
theorem seq_all {n : Nat} {on : Nat → Bool} {D : QD} (g : GoodQ n on D) (t : TailQ n on D) {m : Nat} (hm : ∀ i, i < m → stopS n on (seqS n on D i) = none) : ∀ i, i ≤ m → GoodQ n on (seqS n on D i) ∧ TailQ n on (seqS n on D i)
  | 0, _ => ⟨g, t⟩
  | i + 1, h => by
    obtain ⟨a, b⟩ := seq_all g t hm i (by omega)
    have s := hm i (by omega)
    refine ⟨seq_good a s, ?_⟩
    obtain ⟨_, l, e, _, _, h3⟩ := stop_go s
    show TailQ n on (nxtS n on (seqS n on D i))
    rw [h3]
    exact exch_Tail b l e
theorem solve_ok {n H : Nat} {on : Nat → Bool} {key : Nat → Nat} (K : KeyOK n H on key) {D : QD} (g : GoodQ n on D) (t : TailQ n on D) (ok : okQ n on D) {m : Nat} {c : Int} (m16 : m < 16384) (hc : stopS n on (seqS n on D m) = some c) (hm : ∀ i, i < m → stopS n on (seqS n on D i) = none) {M : Mem} (hM : DicC n H key M D) {Q : Int → Mem → Prop} (h : ∀ M' : Mem, FrD M M' → (0 ≤ endS m c → DicC n H key M' (seqS n on D m)) → Q (endS m c) M') : wp_X3_solve 87 M Q := by
  unfold wp_X3_solve
  refine ⟨fun M' x1 => ∃ i : Nat, x1 = (i : Int) ∧ i ≤ m ∧ okQ n on (seqS n on D i) ∧ DicC n H key M' (seqS n on D i) ∧ FrD M M', fun _ x1 => ((16384 : Int) - x1).toNat, ⟨0, rfl, Nat.zero_le _, ok, hM, FrD_refl M⟩, ?_⟩
  rintro M1 x1 ⟨i, rfl, hi, f1, f2, f3⟩
  obtain ⟨gi, ti⟩ := seq_all g t hm i hi
  have Ni := GoodQ_num gi
  have wi := gi.1
  have st : ∀ v, stopS n on (seqS n on D i) = some v → i = m ∧ v = c := fun v hv => by
    rcases Nat.lt_or_ge i m with q | q
    · rw [hm i q] at hv
      cases hv
    · have : i = m := by omega
      subst this
      rw [hc] at hv
      cases hv
      exact ⟨rfl, rfl⟩
  have so : stopS n on (seqS n on D i) = (match lvS on (seqS n on D i) with | none => some 0 | some l => match enUp (seqS n on D i) l n with | none => some (-7) | some none => some (-8) | some (some _) => none) := by
    unfold stopS
    rw [if_pos (okB_iff.mpr f1)]
    rfl
  unfold wp_X3_solve_B2
  rw [wl_1000000, w32n (show i < 2147483648 by omega)]
  refine ⟨fun u => absurd u (by omega), fun _ => ?_⟩
  refine findLeaving_ok K wi Ni f1 f2 (fun r hr => ?_)
  rcases hr with ⟨rfl, hr⟩ | ⟨p, rfl, hp, hr⟩
  · refine ⟨fun z => absurd rfl z, fun _ => ?_⟩
    obtain ⟨rfl, rfl⟩ := st 0 (by rw [so, hr])
    exact h M1 f3 (fun _ => f2)
  have p9 : p < 9 := by have := K.1; omega
  refine ⟨fun _ => ?_, fun z => absurd z (by rw [w32n (show p < 2147483648 by omega), wm_1]; omega)⟩
  rw [rt_87.2.1, ixn (show p < 2147483648 by omega), rt_96 p p9]
  refine ⟨inbn LN_96 p9, ?_⟩
  refine findEntering_ok K wi Ni f1 hp f2 (fun r M2 hL hr2 => ?_)
  have fD : FrD M M2 := fun k j q => by rw [hL k j (by omega) (by omega)]; exact f3 k j q
  rw [hr] at so
  dsimp only at so
  rcases hr2 with ⟨y, rfl⟩ | ⟨y, rfl⟩ | ⟨e, y, rfl, he, ha⟩
  · refine ⟨fun z => absurd z (by decide), fun _ => ?_⟩
    obtain ⟨rfl, rfl⟩ := st (-7) (by rw [so, y])
    exact h M2 fD (fun z => absurd z (endS_7 _))
  · refine ⟨fun z => absurd z (by decide), fun _ => ?_⟩
    obtain ⟨rfl, rfl⟩ := st (-8) (by rw [so, y])
    exact h M2 fD (fun z => absurd z (endS_8 _))
  · have e5 : e < 5 := by have := K.2.1; omega
    refine ⟨fun _ => ?_, fun z => absurd z (by rw [w32n (show e < 2147483648 by omega)]; omega)⟩
    rw [y] at so
    have im : i < m := by
      rcases Nat.lt_or_ge i m with q | q
      · exact q
      · have : i = m := by omega
        subst this
        rw [hc] at so
        cases so
    have nx : seqS n on D (i + 1) = exchQ n (seqS n on D i) (key p) e := by
      show nxtS n on (seqS n on D i) = _
      unfold nxtS
      rw [hr]
      dsimp only
      rw [y]
    have f2' : DicC n H key M2 (seqS n on D i) := DicC_same K.1 f2 (fun k j _ _ q => hL k j (by omega) (by omega))
    refine exchange_ok K wi hp he ha f2' (fun M3 d1 d2 => ?_)
    rw [← nx] at d1
    have fD3 := FrD_trans fD d2
    refine isGreat_ok K (seq_all g t hm (i + 1) im).2 d1 (fun b hb => ?_)
    refine ⟨fun z => ⟨⟨i + 1, rfl, im, hb.mp z, d1, fD3⟩, by dsimp only; omega⟩, fun z => ?_⟩
    have nok : ¬ okQ n on (seqS n on D (i + 1)) := fun q => by rw [hb.mpr q] at z; cases z
    have s7 : stopS n on (seqS n on D (i + 1)) = some (-7) := by
      unfold stopS
      rw [if_neg (fun q => nok (okB_iff.mp q))]
    have : i + 1 = m := by
      rcases Nat.lt_or_ge (i + 1) m with q | q
      · rw [hm (i + 1) q] at s7
        cases s7
      · omega
    subst this
    rw [hc] at s7
    cases s7
    exact h M3 fD3 (fun z => absurd z (endS_7 _))
