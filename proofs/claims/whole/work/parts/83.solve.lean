/-! what the class's dictionary holds once solved -/
def tMq (M : Mem) : F1 := fun j => if j < 30 then M 193 j else 0
def nMq (M : Mem) : Nat := (M 189 3).toNat
def rMq (M : Mem) : F1 := rrS (M 190) (M 191) noY
def vMq (M : Mem) : Nat → Nat → Int := fun j i => payAt (M 190) (tMq M) j (rateByS (M 190) (M 191) noY) i
def dMq (M : Mem) : Nat → Int := fun i => M 190 (dayS (M 190) i)
def lMq (M : Mem) : Nat → Int := fun i => M 192 (dayS (M 190) i) - 1
def pMq (M : Mem) : Nat → Int := fun j => tMq M (5 + j)
def D0q (M : Mem) : QD := startQ (nMq M) (rMq M) (vMq M) (dMq M) (lMq M) (pMq M)
def onq (M : Mem) : Nat → Bool := onS (rungs (M 190)) (lMq M)
def EndQ (n : Nat) (on : Nat → Bool) (D : QD) (m : Nat) (c : Int) : Prop := m < 16384 ∧ stopS n on (seqS n on D m) = some c ∧ ∀ i, i < m → stopS n on (seqS n on D i) = none
theorem EndQ_uni {n : Nat} {on : Nat → Bool} {D : QD} {m m' : Nat} {c c' : Int} (h : EndQ n on D m c) (h' : EndQ n on D m' c') : m = m' ∧ c = c' := by
  obtain ⟨-, a, b⟩ := h
  obtain ⟨-, a', b'⟩ := h'
  have : m = m' := by
    rcases Nat.lt_trichotomy m m' with q | q | q
    · rw [b' m q] at a
      cases a
    · exact q
    · rw [b m' q] at a'
      cases a'
  subst this
  rw [a] at a'
  cases a'
  exact ⟨rfl, rfl⟩
def DKs (M : Mem) : Prop := ∃ (m : Nat) (c : Int) (H : Nat) (key : Nat → Nat), EndQ (nMq M) (onq M) (D0q M) m c ∧ M 0 14 = endS m c ∧ (0 ≤ endS m c → KeyOK (nMq M) H (onq M) key ∧ DicC (nMq M) H key M (seqS (nMq M) (onq M) (D0q M) m))
theorem keepH_dic {k j : Nat} (h : 87 ≤ k ∧ k < 174 ∧ ¬ (98 ≤ k ∧ k ≤ 101)) : keepH k j = true := by
  unfold keepH
  grind (splits := 40)
theorem DKs_kept : KeptH DKs := by
  intro M M2 e h
  have r0 : M2 190 = M 190 := funext fun j => e 190 j rfl
  have r1 : M2 191 = M 191 := funext fun j => e 191 j rfl
  have r2 : M2 192 = M 192 := funext fun j => e 192 j rfl
  have r3 : tMq M2 = tMq M := funext fun j => by
    unfold tMq
    by_cases q : j < 30
    · rw [if_pos q, if_pos q]
      refine e 193 j ?_
      unfold keepH
      rw [show decide (j < 30) = true from decide_eq_true q]
      rfl
    · rw [if_neg q, if_neg q]
  have r4 : nMq M2 = nMq M := by unfold nMq; rw [e 189 3 rfl]
  have r5 : onq M2 = onq M := by unfold onq lMq; rw [r0, r2]
  have r6 : D0q M2 = D0q M := by unfold D0q rMq vMq dMq lMq pMq; rw [r0, r1, r2, r3, r4]
  obtain ⟨m, c, H, key, h1, h2, h3⟩ := h
  refine ⟨m, c, H, key, ?_, ?_, fun z => ?_⟩
  · rw [r4, r5, r6]; exact h1
  · rw [e 0 14 rfl]; exact h2
  · rw [r4, r5, r6]
    obtain ⟨a, b⟩ := h3 z
    exact ⟨a, DicC_same a.1 b (fun k j q1 q2 q3 => e k j (keepH_dic ⟨q1, q2, q3⟩))⟩
theorem DatR_of {DK : Mem → Prop} {M : Mem} (hI : Inv DK M) : DatR (rungs (M 190)) (nMq M) (rMq M) (vMq M) (dMq M) (lMq M) (pMq M) := by
  have hg := Inv_Rng hI
  obtain ⟨n1, n2⟩ := Inv_n hI
  have hn : (nMq M : Int) = M 189 3 := by unfold nMq; omega
  have hB := hI.1.2.2.2.2.2.2.2.2
  refine ⟨hg.2.1, by omega, fun i hi => ?_, fun j hj => ?_⟩
  · obtain ⟨d1, d2, -⟩ := dayS_ok hi
    have a := hg.1 (dayS (M 190) i) d2
    refine ⟨Rng_by hg noY_yR d2, ⟨a.1, a.2.1⟩, ⟨by unfold lMq; omega, by unfold lMq; omega⟩, fun j hj => ?_⟩
    have := Rng_payAt hg noY_yR (b := j) (by omega) i
    unfold vMq
    rw [payAt_congr (t := M 193) (t' := tMq M) (fun j hj => by unfold tMq; rw [if_pos hj]) (by omega)]
    exact this
  · obtain ⟨-, -, c, -⟩ := hB j (by omega)
    unfold pMq tMq
    rw [if_pos (by omega)]
    omega
theorem DatC_of {M : Mem} {n : Nat} (hn : n ≤ 5) (hn2 : (n : Int) = M 189 3) (hS : SceneOK M 27 (M 190) (M 191) (M 192) (M 193) noY (M 189 3)) : DatC (rungs (M 190)) n (rMq M) (vMq M) (dMq M) (lMq M) M := by
  obtain ⟨a, b, c, d⟩ := hS
  refine ⟨a, fun i hi => ?_⟩
  obtain ⟨b1, b2, b3, b4⟩ := b i hi
  refine ⟨b3, b2, b4, fun j hj => ?_⟩
  have := (d j (by omega)).2.1 i hi
  unfold vMq
  rw [payAt_congr (t := M 193) (t' := tMq M) (fun j hj => by unfold tMq; rw [if_pos hj]) (by omega)]
  exact this
theorem Inv_solved {DK : Mem → Prop} {M M2 : Mem} (hI : Inv DK M) (h5 : fb M 0 5 = false) (hS : SceneOK M 27 (M 190) (M 191) (M 192) (M 193) noY (M 189 3)) (e : ∀ k j, ¬ (87 ≤ k ∧ k < 174) → ¬ (k = 0 ∧ (j = 13 ∨ j = 14)) → M2 k j = M k j) (hD : DK M2) : Inv DK M2 := by
  have row : ∀ k : Nat, k ≠ 0 → ¬ (87 ≤ k ∧ k < 174) → M2 k = M k := fun k h1 h2 => funext fun j => e k j h2 (by omega)
  obtain ⟨h1, h2, h3, h4, h5', h6, h7⟩ := hI
  have z2 : fb M2 0 2 = fb M 0 2 := fb_eq (e 0 2 (by decide) (by decide))
  have z28 : fb M2 189 28 = fb M 189 28 := fb_eq (e 189 28 (by decide) (by decide))
  have rb : ∀ b, b < 48 → M2 (1 + b) = M (1 + b) := fun b hb => row _ (by omega) (by omega)
  refine ⟨?_, ?_, ?_, ?_, ?_, ?_, ?_⟩
  · unfold InvB at *
    obtain ⟨q1, q2, q3, q4, q5, q6, q7, q8, q9⟩ := h1
    rw [row 3 (by decide) (by decide), row 5 (by decide) (by decide), row 7 (by decide) (by decide), row 1 (by decide) (by decide), row 190 (by decide) (by decide), row 191 (by decide) (by decide), row 192 (by decide) (by decide), row 193 (by decide) (by decide), row 189 (by decide) (by decide)]
    refine ⟨q1, q2, q3, q4, q5, q6, q7, q8, fun b hb => ?_⟩
    have := q9 b hb
    have hb5 : b < 5 := by omega
    dsimp only at this ⊢
    rw [row (9 + b) (by omega) (by omega)]
    exact this
  · unfold InvK at *
    rw [row 2 (by decide) (by decide), row 4 (by decide) (by decide), row 6 (by decide) (by decide)]
    exact h2
  · unfold InvR at *
    rw [row 190 (by decide) (by decide), row 194 (by decide) (by decide), row 195 (by decide) (by decide), row 189 (by decide) (by decide)]
    exact h3
  · unfold InvI at *
    rw [z2, z28]
    refine ⟨h4.1, fun q => ?_⟩
    obtain ⟨q1, q2, q3, q4, q5, q6, q7, q8, q9⟩ := h4.2 q
    rw [row 16 (by decide) (by decide), row 18 (by decide) (by decide), row 20 (by decide) (by decide), row 14 (by decide) (by decide), row 208 (by decide) (by decide), row 189 (by decide) (by decide)]
    refine ⟨q1, q2, q3, q4, q5, q6, q7, q8, fun b hb => ?_⟩
    have := q9 b hb
    have hb5 : b < 5 := by omega
    dsimp only at this ⊢
    rw [row (22 + b) (by omega) (by omega)]
    exact this
  · unfold InvS at *
    intro j hj
    rw [row 209 (by decide) (by decide), row 210 (by decide) (by decide), row 211 (by decide) (by decide), row (181 + 2 * j) (by omega) (by omega), row (182 + 2 * j) (by omega) (by omega)]
    exact h5' j hj
  · unfold InvN at *
    rw [row 69 (by decide) (by decide)]
    exact h6
  · unfold InvC at *
    intro _
    refine ⟨?_, fun _ => hD⟩
    unfold SceneOK at *
    obtain ⟨v1, v2, v3, v4⟩ := hS
    rw [row 190 (by decide) (by decide), row 191 (by decide) (by decide), row 192 (by decide) (by decide), row 193 (by decide) (by decide), row 189 (by decide) (by decide), row 27 (by decide) (by decide), row (27 + 1) (by decide) (by decide), row (27 + 2) (by decide) (by decide), row (27 + 3) (by decide) (by decide), row (27 + 4) (by decide) (by decide), row (27 + 5) (by decide) (by decide), row (27 + 6) (by decide) (by decide), row (27 + 19) (by decide) (by decide), row (27 + 20) (by decide) (by decide)]
    refine ⟨v1, v2, v3, fun b hb => ?_⟩
    have hn := h1.2.2.2.2.2.2.2.1
    have hb5 : b < 5 := by omega
    rw [row (27 + 8 + b) (by omega) (by omega), row (27 + 14 + b) (by omega) (by omega)]
    exact v4 b hb
theorem X11_solve_ok {M : Mem} (hI : Inv DKs M) {Q : Mem → Prop} (h : ∀ M' : Mem, Inv DKs M' → DKs M' → SceneOK M' 27 (M' 190) (M' 191) (M' 192) (M' 193) noY (M' 189 3) → (∀ k, 189 ≤ k → M' k = M k) → Q M') : wp_X11_solve 0 M Q := by
  unfold wp_X11_solve
  refine look_ok hI (fun M1 hI1 hS h5 hf => ?_)
  have he : ∀ k, 189 ≤ k → M1 k = M k := fun k hk => funext fun j => hf k j (by omega) (by omega)
  refine ⟨fun z => h M1 hI1 (((hI1.2.2.2.2.2.2) h5).2 z) hS he, fun _ => ?_⟩
  obtain ⟨n1, n2⟩ := Inv_n hI1
  have hn : (nMq M1 : Int) = M1 189 3 := by unfold nMq; omega
  have hg := DatR_of hI1
  have hB := hI1.1.2.2.2.2.2.2.2.2
  have e0 : rt 0 12 = 87 ∧ rt 0 0 = 1 ∧ rt 0 3 = 27 := by decide +kernel
  rw [e0.1, e0.2.1, e0.2.2]
  refine begin_ok hg (DatC_of (by omega) hn hS) (by rw [n1, hn]) (fun j hj => ?_) (fun M2 H key K hD f2 => ?_)
  · have := (hB j (by omega)).1 1 (by decide)
    dsimp only at this
    rw [this]
    unfold pMq tMq
    rw [if_pos (by omega)]
  obtain ⟨g, t, ok⟩ := start_ok hg
  obtain ⟨m, m1, m2, m3⟩ := ends_soon (onS_lt _ _) g
  obtain ⟨c, hc⟩ : ∃ c, stopS (nMq M1) (onq M1) (seqS (nMq M1) (onq M1) (D0q M1) m) = some c := by
    cases q : stopS (nMq M1) (onq M1) (seqS (nMq M1) (onq M1) (D0q M1) m) with
    | none => exact absurd q m2
    | some c => exact ⟨c, rfl⟩
  refine solve_ok K g t ok m1 hc m3 hD (fun M3 f3 hE => ?_)
  rintro M34 rfl M39 rfl
  obtain ⟨M9, h9⟩ : ∃ M9, M9 = st2 (st2 M3 0 14 (endS m c)) 0 13 (bz true) := ⟨_, rfl⟩
  rw [← h9]
  have off : ∀ k j, ¬ (k = 0 ∧ (j = 13 ∨ j = 14)) → M9 k j = M3 k j := fun k j q => by
    rw [h9, st2_n _ _ (fun z => q ⟨z.1, Or.inl z.2⟩), st2_n _ _ (fun z => q ⟨z.1, Or.inr z.2⟩)]
  have fr : ∀ k j, ¬ (87 ≤ k ∧ k < 174) → ¬ (k = 0 ∧ (j = 13 ∨ j = 14)) → M9 k j = M1 k j := fun k j q1 q2 => by
    rw [off k j q2, f3 k j (by omega), f2 k j q1]
  have big : ∀ k, 189 ≤ k → M9 k = M1 k := fun k hk => funext fun j => fr k j (by omega) (by omega)
  have eq1 : nMq M9 = nMq M1 := by unfold nMq; rw [big 189 (by decide)]
  have eq2 : onq M9 = onq M1 := by unfold onq lMq; rw [big 190 (by decide), big 192 (by decide)]
  have eq3 : tMq M9 = tMq M1 := by unfold tMq; rw [big 193 (by decide)]
  have eq4 : D0q M9 = D0q M1 := by unfold D0q rMq vMq dMq lMq pMq; rw [eq1, eq3, big 190 (by decide), big 191 (by decide), big 192 (by decide)]
  have dk : DKs M9 := by
    refine ⟨m, c, H, key, ?_, ?_, fun z => ?_⟩
    · rw [eq1, eq2, eq4]; exact ⟨m1, hc, m3⟩
    · rw [h9, st2_n _ _ (by decide), st2_s]
    · rw [eq1, eq2, eq4]
      exact ⟨K, DicC_same K.1 (hE z) (fun k j q1 _ _ => off k j (by omega))⟩
  refine h M9 (Inv_solved hI1 h5 hS fr dk) dk ?_ (fun k hk => by rw [big k hk, he k hk])
  have i9 := Inv_solved hI1 h5 hS fr dk
  exact (i9.2.2.2.2.2.2 (by rw [show fb M9 0 5 = fb M1 0 5 from fb_eq (fr 0 5 (by decide) (by decide))]; exact h5)).1
